section
/-! rows of kit/rows: stores, numbers, branches, bits of ints -/
theorem pk_us {f : Nat → Int32} {k : Nat} {x : Int32} : upd f k x k = x := if_pos rfl
theorem pk_un {f : Nat → Int32} {k j : Nat} {x : Int32} (h : j ≠ k) : upd f k x j = f j := if_neg h
theorem pk_uLs {f : Nat → Int64} {k : Nat} {x : Int64} : vp_updL f k x k = x := if_pos rfl
theorem pk_uLn {f : Nat → Int64} {k j : Nat} {x : Int64} (h : j ≠ k) : vp_updL f k x j = f j := if_neg h
theorem pk_sub {a b : Nat} (h : b ≤ a) : nI a - nI b = nI (a - b) := by
  obtain ⟨c, rfl⟩ : ∃ c, a = c + b := ⟨a - b, by omega⟩
  rw [← nI_add, Int32.add_sub_cancel, Nat.add_sub_cancel]
theorem pk_m1 (n : Nat) : nI (n + 1) + (-1) = nI n := by
  rw [← nI_1, Int32.add_assoc, show (1 : Int32) + (-1) = 0 from rfl, Int32.add_zero]
theorem pk_mul (a b : Nat) : nI a * nI b = nI (a * b) := (Int32.ofNat_mul a b).symm
theorem pk_div {a d : Nat} (ha : a < 2 ^ 31) (h0 : 0 < d) (hd : d < 2 ^ 31) : nI a / nI d = nI (a / d) := by
  apply Int32.toInt_inj.mp
  rw [lg_idiv_nonneg (by rw [nI_toInt ha]; omega) (by rw [nI_toInt hd]; omega), nI_toInt ha, nI_toInt hd, nI_toInt (Nat.lt_of_le_of_lt (Nat.div_le_self a d) ha)]
  first | rfl | exact (Int.natCast_ediv _ _).symm
theorem pk_rem {a d : Nat} (ha : a < 2 ^ 31) (h0 : 0 < d) (hd : d < 2 ^ 31) : nI a - nI a / nI d * nI d = nI (a % d) := by
  rw [pk_div ha h0 hd, pk_mul, pk_sub (Nat.div_mul_le_self a d)]
  exact congrArg nI (by have := Nat.div_add_mod' a d; omega)
theorem pk_sub_toInt {a b : Nat} (ha : a < 2 ^ 30) (hb : b < 2 ^ 30) : (nI a - nI b).toInt = (a : Int) - b := by
  rw [Int32.toInt_sub, nI_toInt (by omega), nI_toInt (by omega)]
  exact Int.bmod_eq_of_le (by omega) (by omega)
theorem pk_sneg {a b : Nat} (hb : b < 2 ^ 30) (h : a < b) : nI a - nI b < 0 := by
  rw [Int32.lt_iff_toInt_lt, pk_sub_toInt (by omega) hb, show (0 : Int32).toInt = 0 from by decide]
  omega
theorem pk_ix (x : Int32) {n : Nat} (hn : n < 2 ^ 31) : x < 0 ∨ nI n ≤ x ∨ ∃ j : Nat, j < n ∧ x = nI j := by
  by_cases h : x < 0
  · exact Or.inl h
  · obtain ⟨j, hj, rfl⟩ := nI_of h
    by_cases h2 : j < n
    · exact Or.inr (Or.inr ⟨j, h2, rfl⟩)
    · exact Or.inr (Or.inl (nI_le (by omega) hj))
theorem pk_le {x y : Int32} {A B : Prop} (a b : Nat) (f : a ≤ b → A) (g : b < a → B) (hx : x = nI a := by rfl) (hy : y = nI b := by rfl) (ha : a < 2 ^ 31 := by omega) (hb : b < 2 ^ 31 := by omega) : (x ≤ y → A) ∧ (¬ x ≤ y → B) := by
  subst hx hy
  rw [nI_leI ha hb]
  exact ⟨f, fun z => g (by omega)⟩
theorem pk_lt {x y : Int32} {A B : Prop} (a b : Nat) (f : a < b → A) (g : b ≤ a → B) (hx : x = nI a := by rfl) (hy : y = nI b := by rfl) (ha : a < 2 ^ 31 := by omega) (hb : b < 2 ^ 31 := by omega) : (x < y → A) ∧ (¬ x < y → B) := by
  subst hx hy
  rw [nI_ltI ha hb]
  exact ⟨f, fun z => g (by omega)⟩
theorem pk_eq {x y : Int32} {A B : Prop} (a b : Nat) (f : a = b → A) (g : a ≠ b → B) (hx : x = nI a := by rfl) (hy : y = nI b := by rfl) (ha : a < 2 ^ 31 := by omega) (hb : b < 2 ^ 31 := by omega) : (x = y → A) ∧ (¬ x = y → B) := by
  subst hx hy
  rw [nI_eq ha hb]
  exact ⟨f, g⟩
theorem pk_in {x : Int32} (n N : Nat) (h : n < N) (hx : x = nI n := by rfl) (hN : N < 2 ^ 31 := by omega) : vp_in x N := by
  subst hx
  exact vp_in_nI h hN
theorem pk_cl {x : Int32} (n : Nat) (hx : x = nI n := by rfl) (h : n < 2 ^ 31 := by omega) : x.toNatClampNeg = n := by
  subst hx
  exact nI_clamp h
theorem pk_tn {n : Nat} (h : n < 2 ^ 32) : (nI n).toBitVec.toNat = n := Nat.mod_eq_of_lt h
theorem pk_loop {σ : Type} (W : Nat → Nat → σ → Prop) (I : Nat → σ → Prop) (e i0 : Nat) (s : σ) (hi : i0 ≤ e) (h0 : I i0 s) (hx : ∀ n s, I e s → W (n + 1) e s)
    (hs : ∀ n i s, i < e → I i s → (∀ s', I (i + 1) s' → W n (i + 1) s') → W (n + 1) i s) : ∃ n, W n i0 s :=
  ⟨e + 1, loop_i W I e hx hs (e + 1) i0 s hi (by omega) h0⟩
theorem pk_least (P : Nat → Prop) (h : ∃ k, P k) : ∃ k, P k ∧ ∀ j, j < k → ¬ P j := by
  obtain ⟨k, hk⟩ := h
  induction k using Nat.strongRecOn with
  | ind k ih =>
    by_cases e : ∃ j, j < k ∧ P j
    · obtain ⟨j, hj, pj⟩ := e
      exact ih j hj pj
    · exact ⟨k, hk, fun j hj pj => e ⟨j, hj, pj⟩⟩
def bt (x : Int32) (i : Nat) : Bool := x.toBitVec.getLsbD i
theorem b_ext {x y : Int32} (h : ∀ i, i < 32 → bt x i = bt y i) : x = y := Int32.toBitVec_inj.mp (BitVec.eq_of_getLsbD_eq (fun i hi => h i hi))
theorem b_or (x y : Int32) (i : Nat) : bt (x ||| y) i = (bt x i || bt y i) := by unfold bt; rw [Int32.toBitVec_or, BitVec.getLsbD_or]
theorem b_and (x y : Int32) (i : Nat) : bt (x &&& y) i = (bt x i && bt y i) := by unfold bt; rw [Int32.toBitVec_and, BitVec.getLsbD_and]
theorem b_xor (x y : Int32) (i : Nat) : bt (x ^^^ y) i = (bt x i ^^ bt y i) := by unfold bt; rw [Int32.toBitVec_xor, BitVec.getLsbD_xor]
theorem b_big {x : Int32} {i : Nat} (h : 32 ≤ i) : bt x i = false := BitVec.getLsbD_of_ge _ _ h
theorem b_255 (i : Nat) : bt 255 i = decide (i < 8) := by
  rcases Nat.lt_or_ge i 32 with h | h
  · exact (by decide +kernel : ∀ i, i < 32 → bt 255 i = decide (i < 8)) i h
  · rw [b_big h, decide_eq_false (by omega)]
theorem b_65535 (i : Nat) : bt 65535 i = decide (i < 16) := by
  rcases Nat.lt_or_ge i 32 with h | h
  · exact (by decide +kernel : ∀ i, i < 32 → bt 65535 i = decide (i < 16)) i h
  · rw [b_big h, decide_eq_false (by omega)]
theorem b_m1 : ∀ i, i < 32 → bt (-1) i = true := by decide +kernel
theorem b_0 (i : Nat) : bt 0 i = false := BitVec.getLsbD_zero
theorem s_l : ∀ n, n < 32 → ((nI n &&& 31).toBitVec.smod 32).toNat = n := by decide +kernel
theorem s_u : ∀ n, n < 32 → (((nI n).toUInt32 &&& Int32.toUInt32 31).toBitVec % 32).toNat = n := by decide +kernel
theorem b_shl (n : Nat) (hn : n < 32) (x : Int32) {i : Nat} (hi : i < 32) : bt (x <<< (nI n &&& 31)) i = (decide (n ≤ i) && bt x (i - n)) := by
  unfold bt
  rw [Int32.toBitVec_shiftLeft]
  show (x.toBitVec <<< ((nI n &&& 31).toBitVec.smod 32).toNat).getLsbD i = _
  rw [s_l n hn, BitVec.getLsbD_shiftLeft]
  rcases Nat.lt_or_ge i n with h | h
  · simp [h, Nat.not_le.mpr h]
  · simp [hi, h, Nat.not_lt.mpr h]
theorem b_ushr (n : Nat) (hn : n < 32) (x : Int32) (i : Nat) : bt ((x.toUInt32 >>> ((nI n).toUInt32 &&& Int32.toUInt32 31)).toInt32) i = bt x (n + i) := by
  show (x.toUInt32 >>> ((nI n).toUInt32 &&& Int32.toUInt32 31)).toBitVec.getLsbD i = x.toUInt32.toBitVec.getLsbD (n + i)
  rw [UInt32.toBitVec_shiftRight]
  show (x.toUInt32.toBitVec >>> (((nI n).toUInt32 &&& Int32.toUInt32 31).toBitVec % 32).toNat).getLsbD i = _
  rw [s_u n hn, BitVec.getLsbD_ushiftRight]
theorem b_sshr (n : Nat) (hn : n < 32) (x : Int32) {i : Nat} (hi : i < 32) : bt (x >>> (nI n &&& 31)) i = if n + i < 32 then bt x (n + i) else bt x 31 := by
  unfold bt
  rw [Int32.toBitVec_shiftRight]
  show (x.toBitVec.sshiftRight ((nI n &&& 31).toBitVec.smod 32).toNat).getLsbD i = _
  rw [s_l n hn, BitVec.getLsbD_sshiftRight, BitVec.msb_eq_getLsbD_last]
  simp [hi]
end
section
/-! bits of longs, and of shifted ones -/
def bl (x : Int64) (i : Nat) : Bool := x.toBitVec.getLsbD i
theorem zb_ext {x y : Int64} (h : ∀ i, i < 64 → bl x i = bl y i) : x = y := Int64.toBitVec_inj.mp (BitVec.eq_of_getLsbD_eq (fun i hi => h i hi))
theorem zb_or (x y : Int64) (i : Nat) : bl (x ||| y) i = (bl x i || bl y i) := by unfold bl; rw [Int64.toBitVec_or, BitVec.getLsbD_or]
theorem zb_and (x y : Int64) (i : Nat) : bl (x &&& y) i = (bl x i && bl y i) := by unfold bl; rw [Int64.toBitVec_and, BitVec.getLsbD_and]
theorem zb_0 (i : Nat) : bl 0 i = false := BitVec.getLsbD_zero
theorem zb_big {x : Int64} {i : Nat} (h : 64 ≤ i) : bl x i = false := BitVec.getLsbD_of_ge _ _ h
theorem zb_sl : ∀ n, n < 64 → (((nI n).toInt64 &&& 63).toBitVec.smod 64).toNat = n := by decide +kernel
theorem zb_one1 : ∀ k, k < 64 → ((1 : Int64) <<< ((nI k).toInt64 &&& 63)).toBitVec = BitVec.twoPow 64 k := by decide +kernel
theorem zb_one {k : Nat} (hk : k < 64) (i : Nat) : bl ((1 : Int64) <<< ((nI k).toInt64 &&& 63)) i = decide (i = k) := by
  unfold bl
  rw [zb_one1 k hk, BitVec.getLsbD_twoPow]
  by_cases h : i = k
  · subst h; simp [hk]
  · simp [h, Ne.symm h]
theorem zb_shr {x : Int64} {k : Nat} (hk : k < 64) : bl (x >>> ((nI k).toInt64 &&& 63)) 0 = bl x k := by
  unfold bl
  rw [Int64.toBitVec_shiftRight]
  show (x.toBitVec.sshiftRight (((nI k).toInt64 &&& 63).toBitVec.smod 64).toNat).getLsbD 0 = _
  rw [zb_sl k hk, BitVec.getLsbD_sshiftRight]
  simp [hk]
theorem zb_a1 (y : Int64) : y &&& 1 = if bl y 0 then 1 else 0 := by
  apply zb_ext
  intro i hi
  rw [zb_and]
  have h1 : ∀ i, i < 64 → bl 1 i = decide (i = 0) := by decide +kernel
  rw [h1 i hi]
  by_cases h : i = 0
  · subst h
    cases hb : bl y 0 <;> simp [zb_0, h1]
  · cases hb : bl y 0 <;> simp [zb_0, h1 i hi, h]
theorem zb_t0 {x : Int64} {k : Nat} (hk : k < 64) : ((x >>> ((nI k).toInt64 &&& 63)) &&& 1) = 0 ↔ bl x k = false := by
  rw [zb_a1, zb_shr hk]
  cases bl x k <;> decide
theorem zb_t1 {x : Int64} {k : Nat} (hk : k < 64) : ((x >>> ((nI k).toInt64 &&& 63)) &&& 1) = 1 ↔ bl x k = true := by
  rw [zb_a1, zb_shr hk]
  cases bl x k <;> decide
/-- a branch on bit k, tested against 0: f where it is wanting, g where it is there -/
theorem zb_b0 {x : Int64} {A B : Prop} {y : Int32} (k : Nat) (f : bl x k = false → A) (g : bl x k = true → B) (hy : y = nI k := by rfl) (hk : k < 64 := by omega) : (((x >>> (y.toInt64 &&& 63)) &&& 1) = 0 → A) ∧ (¬ ((x >>> (y.toInt64 &&& 63)) &&& 1) = 0 → B) := by
  subst hy
  rw [zb_t0 hk]
  exact ⟨f, fun h => g (by cases h2 : bl x k <;> simp_all)⟩
/-- a branch on bit k, tested against 1: g where it is there, f where it is wanting -/
theorem zb_b1 {x : Int64} {A B : Prop} {y : Int32} (k : Nat) (g : bl x k = true → A) (f : bl x k = false → B) (hy : y = nI k := by rfl) (hk : k < 64 := by omega) : (((x >>> (y.toInt64 &&& 63)) &&& 1) = 1 → A) ∧ (¬ ((x >>> (y.toInt64 &&& 63)) &&& 1) = 1 → B) := by
  subst hy
  rw [zb_t1 hk]
  exact ⟨g, fun h => f (by cases h2 : bl x k <;> simp_all)⟩
theorem zc_one1 : ∀ k, k < 32 → ((1 : Int32) <<< (nI k &&& 31)).toBitVec = BitVec.twoPow 32 k := by decide +kernel
theorem zc_one {k : Nat} (hk : k < 32) (i : Nat) : bt ((1 : Int32) <<< (nI k &&& 31)) i = decide (i = k) := by
  unfold bt
  rw [zc_one1 k hk, BitVec.getLsbD_twoPow]
  by_cases h : i = k
  · subst h; simp [hk]
  · simp [h, Ne.symm h]
theorem zc_a1 (y : Int32) : y &&& 1 = if bt y 0 then 1 else 0 := by
  apply b_ext
  intro i hi
  rw [b_and]
  have h1 : ∀ i, i < 32 → bt 1 i = decide (i = 0) := by decide +kernel
  rw [h1 i hi]
  by_cases h : i = 0
  · subst h
    cases hb : bt y 0 <;> simp [b_0, h1]
  · cases hb : bt y 0 <;> simp [b_0, h1 i hi, h]
theorem zc_shr {x : Int32} {k : Nat} (hk : k < 32) : bt (x >>> (nI k &&& 31)) 0 = bt x k := by
  rw [b_sshr k hk x (by omega)]
  simp [hk]
theorem zc_t0 {x : Int32} {k : Nat} (hk : k < 32) : ((x >>> (nI k &&& 31)) &&& 1) = 0 ↔ bt x k = false := by
  rw [zc_a1, zc_shr hk]
  cases bt x k <;> decide
theorem zc_b0 {x : Int32} {A B : Prop} {y : Int32} (k : Nat) (f : bt x k = false → A) (g : bt x k = true → B) (hy : y = nI k := by rfl) (hk : k < 32 := by omega) : (((x >>> (y &&& 31)) &&& 1) = 0 → A) ∧ (¬ ((x >>> (y &&& 31)) &&& 1) = 0 → B) := by
  subst hy
  rw [zc_t0 hk]
  exact ⟨f, fun h => g (by cases h2 : bt x k <;> simp_all)⟩
theorem zc_long (y : Int32) {i : Nat} (hi : i < 32) : bl y.toInt64 i = bt y i := by
  unfold bl bt
  rw [Int32.toBitVec_toInt64, BitVec.getLsbD_signExtend]
  simp [hi, show i < 64 by omega]
theorem zc_longH (y : Int32) {i : Nat} (hi : 32 ≤ i) (h : bt y 31 = false) : bl y.toInt64 i = false := by
  unfold bl
  unfold bt at h
  rw [Int32.toBitVec_toInt64, BitVec.getLsbD_signExtend, BitVec.msb_eq_getLsbD_last]
  simp only [show ¬ i < 32 by omega, if_false, h, Bool.and_false]
theorem zn_cl (n : Nat) (h : n < 2 ^ 31) : (nI n).toNatClampNeg = n := nI_clamp h
/-- the sum of two numbers below, as an index -/
theorem zn_in {x : Int32} {n N : Nat} (hx : x = nI n) (h : n < N) (hN : N < 2 ^ 31) : vp_in x N := by subst hx; exact vp_in_nI h hN
theorem zn_ne1 {n : Nat} (h : n < 2 ^ 31) : ¬ nI n = -1 := by
  intro e
  have := congrArg Int32.toInt e
  rw [nI_toInt h, show (-1 : Int32).toInt = -1 from by decide] at this
  omega
theorem zn_inj {a b : Nat} (ha : a < 2 ^ 31) (hb : b < 2 ^ 31) (h : nI a = nI b) : a = b := (nI_eq ha hb).mp h
theorem zn_m1 : ((-1 : Int32) < 0) := by decide
theorem zn_m1' : ¬ ((0 : Int32) ≤ -1) := by decide
/-- what a small number is told by its three comparisons -/
theorem zn_bel (x : Int32) {n : Nat} (hn : n < 2 ^ 31) : (x < 0 ∨ nI n ≤ x) ∨ ∃ j, j < n ∧ x = nI j := by
  rcases pk_ix x hn with h | h | h
  · exact Or.inl (Or.inl h)
  · exact Or.inl (Or.inr h)
  · exact Or.inr h
end
section
/-! the relation of the two states, and what it is made of -/
def nv (a : Nat → Int32) : Nat → Nat := fun k => (a k).toNatClampNeg
/-- rule terms and rule lengths are within -/
def ru_ok (tm sz : Nat → Int32) : Prop := (∀ k, ∃ t, t < 10 ∧ tm k = nI t) ∧ (∀ r, ∃ n, n ≤ 8 ∧ sz r = nI n)
/-- a grammar: pc productions, left sides, widths, right sides; production 8 is the beginning's -/
def gr_V (pc : Nat) (L W : Nat → Nat) (R : Nat → Nat → Nat) : Prop :=
  pc ≤ 8 ∧ (∀ p, L p ≤ 13 ∧ W p ≤ 3 ∧ ∀ k, k < W p → R p k < 4 ∨ (10 ≤ R p k ∧ R p k < 13)) ∧ (∀ p, p < pc → 10 ≤ L p ∧ L p < 13) ∧ L 8 = 13 ∧ W 8 = 1 ∧ R 8 0 = 10
def gr_X (g : Nat → Int32) (L W : Nat → Nat) (R : Nat → Nat → Nat) : Prop :=
  ∀ p, p < 9 → g (7 * p) = nI (L p) ∧ g (7 * p + 1) = nI (W p) ∧ ∀ k, k < W p → g (7 * p + 2 + k) = nI (R p k)
def gr_Y (le ri wi : Nat → Int32) (L W : Nat → Nat) (R : Nat → Nat → Nat) : Prop :=
  ∀ p, p < 9 → le p = nI (L p) ∧ wi p = nI (W p) ∧ ∀ k, k < W p → ri (3 * p + k) = nI (R p k)
def gr_O (g op co : Nat → Int32) : Prop := ∀ p, p < 8 → g (7 * p + 5) = op p ∧ g (7 * p + 6) = co p ∧ ∃ o, o < 4 ∧ op p = nI o
def rg (cx cy : Int32) (g le ri wi op co : Nat → Int32) : Prop :=
  ∃ pc L W R, cx = nI pc ∧ cy = nI pc ∧ gr_V pc L W R ∧ gr_X g L W R ∧ gr_Y le ri wi L W R ∧ gr_O g op co
def rt (lx ly : Int32) (tx : Nat → Int32) : Prop := ∃ n, n ≤ 20 ∧ lx = nI n ∧ ly = nI n ∧ ∀ k, ∃ l, l < 4 ∧ tx k = nI l
/-- how many expressions a term takes; the depth behind k terms; well formed -/
def tk (t : Nat) : Nat := if t < 5 then 0 else if t < 7 then 2 else 1
def dp (tm : Nat → Nat) (b : Nat) : Nat → Nat
  | 0 => 0
  | k + 1 => dp tm b k + 1 - tk (tm (b + k))
def wf_ (tm : Nat → Nat) (b n : Nat) : Prop := (∀ k, k < n → tk (tm (b + k)) ≤ dp tm b k) ∧ (n = 0 ∨ dp tm b n = 1)
/-- a chain of parts that are not empty -/
def pl_ (A : Nat → Nat → Prop) : Nat → Nat → Nat → Prop
  | 0, _, _ => False
  | n + 1, i, j => ∃ m, i < m ∧ m ≤ j ∧ A i m ∧ (m = j ∨ pl_ A n m j)
def pl (A : Nat → Nat → Prop) (i j : Nat) : Prop := ∃ n, pl_ A n i j
def us (s : Nat → Nat → Nat → Prop) (d : Nat) (A : Nat → Nat → Prop) : Nat → Nat → Nat → Prop := fun e => if e = d then A else s e
/-- what one term makes of a stack of sets of parts of the text -/
def sm (tl : Nat → Nat) (t d : Nat) (s : Nat → Nat → Nat → Prop) : Nat → Nat → Nat → Prop :=
  if t < 5 then us s d (fun i j => j = i + 1 ∧ (t = 4 ∨ tl i = t))
  else if t = 5 then us s (d - 2) (fun i j => ∃ m, i ≤ m ∧ m ≤ j ∧ s (d - 2) i m ∧ s (d - 1) m j)
  else if t = 6 then us s (d - 2) (fun i j => s (d - 2) i j ∨ s (d - 1) i j)
  else if t = 7 then us s (d - 1) (fun i j => i = j ∨ pl (s (d - 1)) i j)
  else if t = 8 then us s (d - 1) (fun i j => s (d - 1) i j ∨ pl (s (d - 1)) i j)
  else us s (d - 1) (fun i j => i = j ∨ s (d - 1) i j)
def ev (tl tm : Nat → Nat) (b : Nat) : Nat → Nat → Nat → Nat → Prop
  | 0 => fun _ _ _ => False
  | k + 1 => sm tl (tm (b + k)) (dp tm b k) (ev tl tm b k)
/-- rule r stands for the part of the text from i to j -/
def lg (tl tm sz : Nat → Nat) (r i j : Nat) : Prop := 0 < sz r ∧ ev tl tm (8 * r) (sz r) 0 i j
/-- the automaton's state behind m letters from place a on -/
def dr (st : Nat → Int32) (tl : Nat → Nat) (a : Nat) : Nat → Int32
  | 0 => 0
  | m + 1 => if dr st tl a m = -1 then -1 else st (4 * (dr st tl a m).toNatClampNeg + tl (a + m))
def sc_v (st ma : Nat → Int32) (tl : Nat → Nat) (a m : Nat) : Int32 := if dr st tl a m = -1 then -1 else ma (dr st tl a m).toNatClampNeg
def sc_m (st ma : Nat → Int32) (tl tm sz : Nat → Nat) (a m : Nat) : Prop :=
  (sc_v st ma tl a (m + 1) = -1 ∧ ∀ r, r < 4 → ¬ lg tl tm sz r a (a + m + 1)) ∨
  ∃ r, r < 4 ∧ sc_v st ma tl a (m + 1) = nI r ∧ lg tl tm sz r a (a + m + 1) ∧ ∀ q, q < r → ¬ lg tl tm sz q a (a + m + 1)
def sc_ok (st ma bT bS : Nat → Int32) : Prop :=
  ru_ok bT bS ∧ (∀ r, r < 4 → wf_ (nv bT) (8 * r) (nv bS r)) ∧ ∃ c, 0 < c ∧ c ≤ 61 ∧
  (∀ s l, s < c → l < 4 → st (4 * s + l) = -1 ∨ ∃ q, q < c ∧ st (4 * s + l) = nI q) ∧
  (∀ s, s < c → ma s = -1 ∨ ∃ r, r < 4 ∧ ma s = nI r) ∧
  ∀ tl : Nat → Nat, (∀ i, tl i < 4) → ∀ a m, sc_m st ma tl (nv bT) (nv bS) a m
def col (x : Nat) : Nat := if x < 4 then x else x - 6
def sym (x : Nat) : Prop := x < 4 ∨ (10 ≤ x ∧ x < 13)
def ac_ok (S : Nat → Nat → Bool) (W : Nat → Nat) (mv : Nat → Int32) (s t : Nat) (a y : Int32) : Prop :=
  (a = -1 ∧ y = 0) ∨ (a = 8 ∧ y = 1 ∧ S s 33 = true) ∨ (a = 9 ∧ t < 4 ∧ ∃ q, q < 40 ∧ mv (13 * s + t) = nI q ∧ y = nI (2 + q)) ∨
  ∃ p, p < 8 ∧ a = nI p ∧ y = nI (100 + p) ∧ S s (4 * p + W p) = true
def pa_ok (bg mv ac le wi op co lt yc : Nat → Int32) : Prop :=
  ∃ (ns : Nat) (S : Nat → Nat → Bool) (L W : Nat → Nat), 0 < ns ∧ ns ≤ 40 ∧ (∀ p, W p ≤ 3 ∧ L p ≤ 13) ∧
  (∀ p, p < 8 → bg (7 * p) = nI (L p) ∧ bg (7 * p + 1) = nI (W p) ∧ le p = nI (L p) ∧ wi p = nI (W p) ∧ bg (7 * p + 5) = op p ∧ bg (7 * p + 6) = co p ∧ ∃ o, o < 4 ∧ op p = nI o) ∧
  (∀ s x, s < ns → sym x → (mv (13 * s + x) = -1 ∧ lt (7 * s + col x) = -1) ∨ ∃ t, 0 < t ∧ t < ns ∧ mv (13 * s + x) = nI t ∧ lt (7 * s + col x) = nI t ∧ ∀ j, S t j = true → j % 4 ≠ 0 → S s (j - 1) = true) ∧
  (∀ s p, s < ns → p < 8 → S s (4 * p) = true → (10 ≤ L p ∧ L p < 13) ∧ ¬ mv (13 * s + L p) = -1) ∧
  (∀ j, S 0 j = true → j % 4 = 0) ∧ (∀ s, s < ns → S s 32 = true → s = 0) ∧
  (∀ s t, s < ns → t < 5 → ac_ok S W mv s t (ac (5 * s + t)) (yc (5 * s + t)))
/-- the longest match from a place on, by the automaton: its end and its rule -/
def mu (st ma : Nat → Int32) (tl : Nat → Nat) : Nat → Nat → Nat → Nat × Int32 → Nat × Int32
  | 0, _, _, e => e
  | d + 1, i, s, e => if st (4 * s + tl i) = -1 then e else
      mu st ma tl d (i + 1) (st (4 * s + tl i)).toNatClampNeg (if ma (st (4 * s + tl i)).toNatClampNeg = -1 then e else (i + 1, ma (st (4 * s + tl i)).toNatClampNeg))
def mx (st ma : Nat → Int32) (tl : Nat → Nat) (n a : Nat) : Nat × Int32 := mu st ma tl (n - a) a 0 (a, -1)
/-- the cut: place, number of tokens, their rules, beginnings and ends -/
def ct (st ma sk : Nat → Int32) (tl : Nat → Nat) (n : Nat) : Nat → Nat × Nat × (Nat → Int32) × (Nat → Int32) × (Nat → Int32) → Nat × Nat × (Nat → Int32) × (Nat → Int32) × (Nat → Int32)
  | 0, z => z
  | d + 1, (a, c, p, b, e) => if n ≤ a then (a, c, p, b, e) else if (mx st ma tl n a).2 = -1 then (a, c, p, b, e)
      else if sk (mx st ma tl n a).2.toNatClampNeg = 0 then ct st ma sk tl n d ((mx st ma tl n a).1, c + 1, upd p c (mx st ma tl n a).2, upd b c (nI a), upd e c (nI (mx st ma tl n a).1))
      else ct st ma sk tl n d ((mx st ma tl n a).1, c, p, b, e)
def cz (st ma sk : Nat → Int32) (tl : Nat → Nat) (n : Nat) : Nat × Nat × (Nat → Int32) × (Nat → Int32) × (Nat → Int32) := ct st ma sk tl n 20 (0, 0, fun _ => 0, fun _ => 0, fun _ => 0)
def tk_ok (z : Nat × Nat × (Nat → Int32) × (Nat → Int32) × (Nat → Int32)) (n : Nat) (to su : Int32) (tk : Nat → Int32) : Prop :=
  to = nI z.2.1 ∧ (z.1 < n → su = nI z.1) ∧ (n ≤ z.1 → su = -1) ∧ ∀ k, k < z.2.1 → tk (3 * k) = z.2.2.1 k ∧ tk (3 * k + 1) = z.2.2.2.1 k ∧ tk (3 * k + 2) = z.2.2.2.2 k
def rb (bx ry sd : Int32) (cx cy bs bSk st ma bT bS bg mv ac le wi op co lt yc tx : Nat → Int32) (lx to su : Int32) (tk : Nat → Int32) : Prop :=
  (bx = 0 ∧ ry = 0) ∨ (bx = 1 ∧ ry = 1 ∧ (∀ r, r < 4 → cx r = cy r) ∧ (∀ r, r < 4 → bSk r = bs r) ∧ sc_ok st ma bT bS ∧ pa_ok bg mv ac le wi op co lt yc ∧
    (sd = 0 ∨ tk_ok (cz st ma bs (nv tx) lx.toNatClampNeg) lx.toNatClampNeg to su tk))
/-- the relation at the head of a turn -/
def i_Rel (k : Nat) (u : SX) (v : SY) : Prop := match u with
  | (f_productionCount, f_textLength, f_anythingBuilt, f_tokenCount, f_parseValue, f_parsePlace, a_ruleTerms, a_ruleLengths, a_skips, a_grammar, a_ranks, a_groupings, a_text, a_heads, a_tails, a_empties, a_placeLetters, a_followers, a_ruleEnds, a_sets, a_steps, a_classes, a_finerClasses, a_states, a_moves, a_begins, a_lookaheads, a_builtCounts, a_builtSteps, a_builtMatches, a_builtSkips, a_builtGrammar, a_builtMoves, a_builtActions, a_tokenRules, a_tokenBegins, a_tokenEnds, a_stackStates, a_stackValues) => match v with
    | (g_productions, g_start, g_sets, g_states, g_conflicts, g_ready, g_length, g_tokens, g_stuck, g_scanned, g_value, g_place, b_term, b_size, b_skipped, b_left, b_right, b_width, b_op, b_constant, b_rank, b_grouping, b_bTerm, b_bSize, b_bSkipped, b_bLeft, b_bWidth, b_bOp, b_bConstant, b_follow, b_ends, b_first, b_last, b_none, b_set, b_leads, b_apart, b_state, b_to, b_look, b_begins, b_nullable, b_act, b_built, b_leadTo, b_text, b_fits, b_token, b_stack, b_worth) => a_ruleTerms = b_term ∧ a_ruleLengths = b_size ∧ a_skips = b_skipped ∧ a_ranks = b_rank ∧ a_groupings = b_grouping ∧ a_text = b_text ∧ f_parseValue = g_value ∧ f_parsePlace = g_place ∧
      (ru_ok a_ruleTerms a_ruleLengths ∧ ru_ok b_bTerm b_bSize) ∧ rg f_productionCount g_productions a_grammar b_left b_right b_width b_op b_constant ∧ rt f_textLength g_length a_text ∧
      rb f_anythingBuilt g_ready g_scanned a_builtCounts b_built a_builtSkips b_bSkipped a_builtSteps a_builtMatches b_bTerm b_bSize a_builtGrammar a_builtMoves a_builtActions b_bLeft b_bWidth b_bOp b_bConstant b_leadTo b_act a_text f_textLength g_tokens g_stuck b_token
theorem i_up {k : Nat} {u : SX} {v : SY} (h : i_Rel k u v) : i_Rel (k + 5) u v := h
section
variable {f_productionCount f_textLength f_anythingBuilt f_tokenCount f_parseValue f_parsePlace : Int32} {a_ruleTerms a_ruleLengths a_skips a_grammar a_ranks a_groupings a_text a_heads a_tails a_empties a_placeLetters a_followers a_ruleEnds : Nat → Int32} {a_sets : Nat → Int64} {a_steps a_classes a_finerClasses : Nat → Int32} {a_states : Nat → Int64} {a_moves a_begins a_lookaheads a_builtCounts a_builtSteps a_builtMatches a_builtSkips a_builtGrammar a_builtMoves a_builtActions a_tokenRules a_tokenBegins a_tokenEnds a_stackStates a_stackValues : Nat → Int32} {g_productions : Int32} {g_start : Int64} {g_sets g_states g_conflicts g_ready g_length g_tokens g_stuck g_scanned g_value g_place : Int32} {b_term b_size b_skipped b_left b_right b_width b_op b_constant b_rank b_grouping b_bTerm b_bSize b_bSkipped b_bLeft b_bWidth b_bOp b_bConstant : Nat → Int32} {b_follow b_ends b_first b_last : Nat → Int64} {b_none : Nat → Int32} {b_set : Nat → Int64} {b_leads b_apart : Nat → Int32} {b_state : Nat → Int64} {b_to b_look b_begins b_nullable b_act b_built b_leadTo b_text b_fits b_token b_stack b_worth : Nat → Int32} {k : Nat}
theorem rl_mk (e1 : a_ruleTerms = b_term) (e2 : a_ruleLengths = b_size) (e3 : a_skips = b_skipped) (e4 : a_ranks = b_rank) (e5 : a_groupings = b_grouping) (e6 : a_text = b_text) (e7 : f_parseValue = g_value) (e8 : f_parsePlace = g_place)
    (h1 : ru_ok a_ruleTerms a_ruleLengths ∧ ru_ok b_bTerm b_bSize) (h2 : rg f_productionCount g_productions a_grammar b_left b_right b_width b_op b_constant) (h3 : rt f_textLength g_length a_text)
    (h4 : rb f_anythingBuilt g_ready g_scanned a_builtCounts b_built a_builtSkips b_bSkipped a_builtSteps a_builtMatches b_bTerm b_bSize a_builtGrammar a_builtMoves a_builtActions b_bLeft b_bWidth b_bOp b_bConstant b_leadTo b_act a_text f_textLength g_tokens g_stuck b_token) :
    i_Rel k (f_productionCount, f_textLength, f_anythingBuilt, f_tokenCount, f_parseValue, f_parsePlace, a_ruleTerms, a_ruleLengths, a_skips, a_grammar, a_ranks, a_groupings, a_text, a_heads, a_tails, a_empties, a_placeLetters, a_followers, a_ruleEnds, a_sets, a_steps, a_classes, a_finerClasses, a_states, a_moves, a_begins, a_lookaheads, a_builtCounts, a_builtSteps, a_builtMatches, a_builtSkips, a_builtGrammar, a_builtMoves, a_builtActions, a_tokenRules, a_tokenBegins, a_tokenEnds, a_stackStates, a_stackValues) (g_productions, g_start, g_sets, g_states, g_conflicts, g_ready, g_length, g_tokens, g_stuck, g_scanned, g_value, g_place, b_term, b_size, b_skipped, b_left, b_right, b_width, b_op, b_constant, b_rank, b_grouping, b_bTerm, b_bSize, b_bSkipped, b_bLeft, b_bWidth, b_bOp, b_bConstant, b_follow, b_ends, b_first, b_last, b_none, b_set, b_leads, b_apart, b_state, b_to, b_look, b_begins, b_nullable, b_act, b_built, b_leadTo, b_text, b_fits, b_token, b_stack, b_worth) := ⟨e1, e2, e3, e4, e5, e6, e7, e8, h1, h2, h3, h4⟩
end
/-! small methods' helpers -/
theorem ib_f {post : Int32 → Prop} {a b : Int32} (h : a < 0 ∨ b ≤ a) (hp : post 0) : wpX_isBelow post a b := by
  by_cases h0 : a < 0
  · exact br_t h0 hp
  · exact br_f h0 (br_t (h.resolve_left h0) hp)
theorem ib_t {post : Int32 → Prop} {a b : Int32} (j n : Nat) (hj : j < n) (hp : post 1) (ha : a = nI j := by rfl) (hb : b = nI n := by rfl) (hn : n < 2 ^ 31 := by omega) : wpX_isBelow post a b := by
  subst ha hb
  exact br_f (nI_pos (by omega)) (br_f (nI_ge hj hn) hp)
theorem am_f {post : Int32 → Prop} {v : SY} {a b : Int32} (h : a < 0 ∨ b ≤ a) (hp : post 0) : wpY_among post v a b := by
  obtain ⟨g_productions, g_start, g_sets, g_states, g_conflicts, g_ready, g_length, g_tokens, g_stuck, g_scanned, g_value, g_place, b_term, b_size, b_skipped, b_left, b_right, b_width, b_op, b_constant, b_rank, b_grouping, b_bTerm, b_bSize, b_bSkipped, b_bLeft, b_bWidth, b_bOp, b_bConstant, b_follow, b_ends, b_first, b_last, b_none, b_set, b_leads, b_apart, b_state, b_to, b_look, b_begins, b_nullable, b_act, b_built, b_leadTo, b_text, b_fits, b_token, b_stack, b_worth⟩ := v
  by_cases h0 : a < 0
  · exact br_t h0 hp
  · exact br_f h0 (br_t (h.resolve_left h0) hp)
theorem am_t {post : Int32 → Prop} {v : SY} {a b : Int32} (j n : Nat) (hj : j < n) (hp : post 1) (ha : a = nI j := by rfl) (hb : b = nI n := by rfl) (hn : n < 2 ^ 31 := by omega) : wpY_among post v a b := by
  obtain ⟨g_productions, g_start, g_sets, g_states, g_conflicts, g_ready, g_length, g_tokens, g_stuck, g_scanned, g_value, g_place, b_term, b_size, b_skipped, b_left, b_right, b_width, b_op, b_constant, b_rank, b_grouping, b_bTerm, b_bSize, b_bSkipped, b_bLeft, b_bWidth, b_bOp, b_bConstant, b_follow, b_ends, b_first, b_last, b_none, b_set, b_leads, b_apart, b_state, b_to, b_look, b_begins, b_nullable, b_act, b_built, b_leadTo, b_text, b_fits, b_token, b_stack, b_worth⟩ := v
  subst ha hb
  exact br_f (nI_pos (by omega)) (br_f (nI_ge hj hn) hp)
end
section
/-! the methods that only set or tell something -/
theorem i_vc0 : wpX_init (fun u => wpY_init (fun v => i_Rel 0 u v)) := by
  refine ⟨pk_in 56 63 (by omega), nm_e ⟨pk_in 57 63 (by omega), nm_e ⟨pk_in 58 63 (by omega), nm_e ?_⟩⟩⟩
  refine nm_e (nm_e (nm_e ?_))
  rw [show (56 + 0 : Int32).toNatClampNeg = 56 from by decide, show (56 + 1 : Int32).toNatClampNeg = 57 from by decide, show (56 + 2 : Int32).toNatClampNeg = 58 from by decide]
  refine rl_mk rfl rfl rfl rfl rfl rfl rfl rfl ⟨⟨fun _ => ⟨0, by omega, rfl⟩, fun _ => ⟨0, by omega, rfl⟩⟩, ⟨fun _ => ⟨0, by omega, rfl⟩, fun _ => ⟨0, by omega, rfl⟩⟩⟩ ?_ ⟨0, by omega, rfl, rfl, fun _ => ⟨0, by omega, rfl⟩⟩ (Or.inl ⟨rfl, rfl⟩)
  refine ⟨0, fun p => if p = 8 then 13 else 0, fun p => if p = 8 then 1 else 0, fun _ _ => 10, rfl, rfl, ⟨by omega, ?_, fun p hp => absurd hp (by omega), rfl, rfl, rfl⟩, ?_, ?_, ?_⟩
  · intro p
    refine ⟨by dsimp only; split <;> omega, by dsimp only; split <;> omega, fun _ _ => Or.inr ⟨Nat.le_refl 10, by show 10 < 13; decide⟩⟩
  · intro p hp
    by_cases h : p = 8
    · subst h
      refine ⟨rfl, rfl, fun k hk => ?_⟩
      have : k = 0 := by simp at hk; omega
      subst this; rfl
    · refine ⟨?_, ?_, fun k hk => ?_⟩
      · simp only [upd, h, if_neg]
        rw [if_neg (by omega), if_neg (by omega), if_neg (by omega)]; rfl
      · simp only [upd, h, if_neg]
        rw [if_neg (by omega), if_neg (by omega), if_neg (by omega)]; rfl
      · simp [h] at hk
  · intro p hp
    by_cases h : p = 8
    · subst h
      refine ⟨rfl, rfl, fun k hk => ?_⟩
      have : k = 0 := by simp at hk; omega
      subst this; rfl
    · refine ⟨?_, ?_, fun k hk => ?_⟩
      · simp only [upd, h, if_neg]; rfl
      · simp only [upd, h, if_neg]; rfl
      · simp [h] at hk
  · intro p hp
    refine ⟨?_, ?_, 0, by omega, rfl⟩
    · simp only [upd]; rw [if_neg (by omega), if_neg (by omega), if_neg (by omega)]
    · simp only [upd]; rw [if_neg (by omega), if_neg (by omega), if_neg (by omega)]
theorem i_vc_value {k : Nat} {u : SX} {v : SY} (I : i_Rel k u v) (hk : k + 5 ≤ 2560) : wpX_value (fun r => wpY_value (fun r' => r' = r ∧ i_Rel (k + 5) u v) v) u := by
  obtain ⟨f_productionCount, f_textLength, f_anythingBuilt, f_tokenCount, f_parseValue, f_parsePlace, a_ruleTerms, a_ruleLengths, a_skips, a_grammar, a_ranks, a_groupings, a_text, a_heads, a_tails, a_empties, a_placeLetters, a_followers, a_ruleEnds, a_sets, a_steps, a_classes, a_finerClasses, a_states, a_moves, a_begins, a_lookaheads, a_builtCounts, a_builtSteps, a_builtMatches, a_builtSkips, a_builtGrammar, a_builtMoves, a_builtActions, a_tokenRules, a_tokenBegins, a_tokenEnds, a_stackStates, a_stackValues⟩ := u
  obtain ⟨g_productions, g_start, g_sets, g_states, g_conflicts, g_ready, g_length, g_tokens, g_stuck, g_scanned, g_value, g_place, b_term, b_size, b_skipped, b_left, b_right, b_width, b_op, b_constant, b_rank, b_grouping, b_bTerm, b_bSize, b_bSkipped, b_bLeft, b_bWidth, b_bOp, b_bConstant, b_follow, b_ends, b_first, b_last, b_none, b_set, b_leads, b_apart, b_state, b_to, b_look, b_begins, b_nullable, b_act, b_built, b_leadTo, b_text, b_fits, b_token, b_stack, b_worth⟩ := v
  exact ⟨I.2.2.2.2.2.2.1.symm, I⟩
theorem i_vc_place {k : Nat} {u : SX} {v : SY} (I : i_Rel k u v) (hk : k + 5 ≤ 2560) : wpX_place (fun r => wpY_place (fun r' => r' = r ∧ i_Rel (k + 5) u v) v) u := by
  obtain ⟨f_productionCount, f_textLength, f_anythingBuilt, f_tokenCount, f_parseValue, f_parsePlace, a_ruleTerms, a_ruleLengths, a_skips, a_grammar, a_ranks, a_groupings, a_text, a_heads, a_tails, a_empties, a_placeLetters, a_followers, a_ruleEnds, a_sets, a_steps, a_classes, a_finerClasses, a_states, a_moves, a_begins, a_lookaheads, a_builtCounts, a_builtSteps, a_builtMatches, a_builtSkips, a_builtGrammar, a_builtMoves, a_builtActions, a_tokenRules, a_tokenBegins, a_tokenEnds, a_stackStates, a_stackValues⟩ := u
  obtain ⟨g_productions, g_start, g_sets, g_states, g_conflicts, g_ready, g_length, g_tokens, g_stuck, g_scanned, g_value, g_place, b_term, b_size, b_skipped, b_left, b_right, b_width, b_op, b_constant, b_rank, b_grouping, b_bTerm, b_bSize, b_bSkipped, b_bLeft, b_bWidth, b_bOp, b_bConstant, b_follow, b_ends, b_first, b_last, b_none, b_set, b_leads, b_apart, b_state, b_to, b_look, b_begins, b_nullable, b_act, b_built, b_leadTo, b_text, b_fits, b_token, b_stack, b_worth⟩ := v
  exact ⟨I.2.2.2.2.2.2.2.1.symm, I⟩
theorem ru_set {tm sz : Nat → Int32} (h : ru_ok tm sz) {c r t n : Nat} (ht : t < 10) (hn : n ≤ 8) : ru_ok (upd tm c (nI t)) (upd sz r (nI n)) := by
  refine ⟨fun k => ?_, fun q => ?_⟩
  · by_cases e : k = c
    · subst e; exact ⟨t, ht, pk_us⟩
    · rw [pk_un e]; exact h.1 k
  · by_cases e : q = r
    · subst e; exact ⟨n, hn, pk_us⟩
    · rw [pk_un e]; exact h.2 q
theorem ru_set1 {tm sz : Nat → Int32} (h : ru_ok tm sz) {r n : Nat} (hn : n ≤ 8) : ru_ok tm (upd sz r (nI n)) := by
  refine ⟨h.1, fun q => ?_⟩
  by_cases e : q = r
  · subst e; exact ⟨n, hn, pk_us⟩
  · rw [pk_un e]; exact h.2 q
theorem i_vc_rule {k : Nat} {u : SX} {v : SY} (I : i_Rel k u v) (hk : k + 5 ≤ 2560) (v1 : Int32) (v2 : Int32) : wpX_rule (fun r u' => wpY_rule (fun r' v' => r' = r ∧ i_Rel (k + 5) u' v') v v1 v2) u v1 v2 := by
  obtain ⟨f_productionCount, f_textLength, f_anythingBuilt, f_tokenCount, f_parseValue, f_parsePlace, a_ruleTerms, a_ruleLengths, a_skips, a_grammar, a_ranks, a_groupings, a_text, a_heads, a_tails, a_empties, a_placeLetters, a_followers, a_ruleEnds, a_sets, a_steps, a_classes, a_finerClasses, a_states, a_moves, a_begins, a_lookaheads, a_builtCounts, a_builtSteps, a_builtMatches, a_builtSkips, a_builtGrammar, a_builtMoves, a_builtActions, a_tokenRules, a_tokenBegins, a_tokenEnds, a_stackStates, a_stackValues⟩ := u
  obtain ⟨g_productions, g_start, g_sets, g_states, g_conflicts, g_ready, g_length, g_tokens, g_stuck, g_scanned, g_value, g_place, b_term, b_size, b_skipped, b_left, b_right, b_width, b_op, b_constant, b_rank, b_grouping, b_bTerm, b_bSize, b_bSkipped, b_bLeft, b_bWidth, b_bOp, b_bConstant, b_follow, b_ends, b_first, b_last, b_none, b_set, b_leads, b_apart, b_state, b_to, b_look, b_begins, b_nullable, b_act, b_built, b_leadTo, b_text, b_fits, b_token, b_stack, b_worth⟩ := v
  have I0 := I
  obtain ⟨rfl, rfl, rfl, rfl, rfl, rfl, rfl, rfl, hr, hg, ht, hb⟩ := I
  unfold wpX_rule wpY_rule
  dsimp only
  rcases zn_bel v1 (n := 4) (by omega) with h1 | ⟨r, hr4, rfl⟩
  · exact ib_f h1 (br_t rfl (am_f h1 (br_t rfl ⟨rfl, I0⟩)))
  rcases zn_bel v2 (n := 10) (by omega) with h2 | ⟨t, ht10, rfl⟩
  · exact ib_t r 4 hr4 (br_f (by decide) (ib_f h2 (br_t rfl (am_t r 4 hr4 (br_f (by decide) (am_f h2 (br_t rfl ⟨rfl, I0⟩)))))))
  obtain ⟨n, hn, en⟩ := hr.1.2 r
  have c1 : (nI r).toNatClampNeg = r := nI_clamp (by omega)
  have i1 : vp_in (nI r) 4 := vp_in_nI hr4 (by omega)
  have e1 : nI r * 8 + nI n = nI (8 * r + n) := by rw [show (8 : Int32) = nI 8 from rfl, pk_mul, nI_add]; congr 1; omega
  have e2 : 8 * nI r + nI n = nI (8 * r + n) := by rw [show (8 : Int32) = nI 8 from rfl, pk_mul, nI_add]
  refine ib_t r 4 hr4 (br_f (by decide) (ib_t t 10 ht10 (br_f (by decide) ⟨i1, ?_⟩)))
  rw [c1, en]
  refine pk_eq n 8 (fun e => ?_) (fun e => ⟨i1, ?_⟩)
  · refine am_t r 4 hr4 (br_f (by decide) (am_t t 10 ht10 (br_f (by decide) ⟨i1, ?_⟩)))
    exact br_t (by rw [e]; rfl) ⟨rfl, I0⟩
  rw [e1, nI_clamp (by omega)]
  refine ⟨vp_in_nI (by omega) (by omega), nm_e ⟨i1, i1, nm_r (e' := upd a_ruleLengths r (nI (n + 1))) (by rw [nI_1]) ?_⟩⟩
  refine am_t r 4 hr4 (br_f (by decide) (am_t t 10 ht10 (br_f (by decide) ⟨i1, ?_⟩)))
  refine br_f (by rw [show (8 : Int32) = nI 8 from rfl, nI_eq (by omega) (by omega)]; exact e) ⟨i1, i1, nm_r (e' := upd a_ruleLengths r (nI (n + 1))) (by rw [nI_1]) ?_⟩
  rw [e2, nI_clamp (by omega)]
  exact ⟨vp_in_nI (by omega) (by omega), nm_e ⟨rfl, rl_mk rfl rfl rfl rfl rfl rfl rfl rfl ⟨ru_set hr.1 ht10 (by omega), hr.2⟩ hg ht hb⟩⟩
theorem i_vc_clear {k : Nat} {u : SX} {v : SY} (I : i_Rel k u v) (hk : k + 5 ≤ 2560) (v1 : Int32) : wpX_clear (fun r u' => wpY_clear (fun r' v' => r' = r ∧ i_Rel (k + 5) u' v') v v1) u v1 := by
  obtain ⟨f_productionCount, f_textLength, f_anythingBuilt, f_tokenCount, f_parseValue, f_parsePlace, a_ruleTerms, a_ruleLengths, a_skips, a_grammar, a_ranks, a_groupings, a_text, a_heads, a_tails, a_empties, a_placeLetters, a_followers, a_ruleEnds, a_sets, a_steps, a_classes, a_finerClasses, a_states, a_moves, a_begins, a_lookaheads, a_builtCounts, a_builtSteps, a_builtMatches, a_builtSkips, a_builtGrammar, a_builtMoves, a_builtActions, a_tokenRules, a_tokenBegins, a_tokenEnds, a_stackStates, a_stackValues⟩ := u
  obtain ⟨g_productions, g_start, g_sets, g_states, g_conflicts, g_ready, g_length, g_tokens, g_stuck, g_scanned, g_value, g_place, b_term, b_size, b_skipped, b_left, b_right, b_width, b_op, b_constant, b_rank, b_grouping, b_bTerm, b_bSize, b_bSkipped, b_bLeft, b_bWidth, b_bOp, b_bConstant, b_follow, b_ends, b_first, b_last, b_none, b_set, b_leads, b_apart, b_state, b_to, b_look, b_begins, b_nullable, b_act, b_built, b_leadTo, b_text, b_fits, b_token, b_stack, b_worth⟩ := v
  have I0 := I
  obtain ⟨rfl, rfl, rfl, rfl, rfl, rfl, rfl, rfl, hr, hg, ht, hb⟩ := I
  unfold wpX_clear wpY_clear
  dsimp only
  rcases zn_bel v1 (n := 4) (by omega) with h1 | ⟨r, hr4, rfl⟩
  · exact ib_f h1 (br_t rfl (am_f h1 (br_t rfl ⟨rfl, I0⟩)))
  have c1 : (nI r).toNatClampNeg = r := nI_clamp (by omega)
  have i1 : vp_in (nI r) 4 := vp_in_nI hr4 (by omega)
  refine ib_t r 4 hr4 (br_f (by decide) ⟨i1, nm_e ⟨i1, nm_e ?_⟩⟩)
  refine am_t r 4 hr4 (br_f (by decide) ⟨i1, nm_e ⟨i1, nm_e ⟨rfl, ?_⟩⟩⟩)
  rw [c1]
  exact rl_mk rfl rfl rfl rfl rfl rfl rfl rfl ⟨ru_set1 (n := 0) hr.1 (by omega), hr.2⟩ hg ht hb
theorem i_vc_skip {k : Nat} {u : SX} {v : SY} (I : i_Rel k u v) (hk : k + 5 ≤ 2560) (v1 : Int32) (v2 : Int32) : wpX_skip (fun r u' => wpY_skip (fun r' v' => r' = r ∧ i_Rel (k + 5) u' v') v v1 (lw_bz v2)) u v1 (lw_bz v2) := by
  obtain ⟨f_productionCount, f_textLength, f_anythingBuilt, f_tokenCount, f_parseValue, f_parsePlace, a_ruleTerms, a_ruleLengths, a_skips, a_grammar, a_ranks, a_groupings, a_text, a_heads, a_tails, a_empties, a_placeLetters, a_followers, a_ruleEnds, a_sets, a_steps, a_classes, a_finerClasses, a_states, a_moves, a_begins, a_lookaheads, a_builtCounts, a_builtSteps, a_builtMatches, a_builtSkips, a_builtGrammar, a_builtMoves, a_builtActions, a_tokenRules, a_tokenBegins, a_tokenEnds, a_stackStates, a_stackValues⟩ := u
  obtain ⟨g_productions, g_start, g_sets, g_states, g_conflicts, g_ready, g_length, g_tokens, g_stuck, g_scanned, g_value, g_place, b_term, b_size, b_skipped, b_left, b_right, b_width, b_op, b_constant, b_rank, b_grouping, b_bTerm, b_bSize, b_bSkipped, b_bLeft, b_bWidth, b_bOp, b_bConstant, b_follow, b_ends, b_first, b_last, b_none, b_set, b_leads, b_apart, b_state, b_to, b_look, b_begins, b_nullable, b_act, b_built, b_leadTo, b_text, b_fits, b_token, b_stack, b_worth⟩ := v
  have I0 := I
  obtain ⟨rfl, rfl, rfl, rfl, rfl, rfl, rfl, rfl, hr, hg, ht, hb⟩ := I
  unfold wpX_skip wpY_skip
  dsimp only
  rcases zn_bel v1 (n := 4) (by omega) with h1 | ⟨r, hr4, rfl⟩
  · exact ib_f h1 (br_t rfl (am_f h1 (br_t rfl ⟨rfl, I0⟩)))
  have i1 : vp_in (nI r) 4 := vp_in_nI hr4 (by omega)
  exact ib_t r 4 hr4 (br_f (by decide) ⟨i1, nm_e (am_t r 4 hr4 (br_f (by decide) ⟨i1, nm_e ⟨rfl, rl_mk rfl rfl rfl rfl rfl rfl rfl rfl hr hg ht hb⟩⟩))⟩)
theorem i_vc_retract {k : Nat} {u : SX} {v : SY} (I : i_Rel k u v) (hk : k + 5 ≤ 2560) : wpX_retract (fun r u' => wpY_retract (fun r' v' => r' = r ∧ i_Rel (k + 5) u' v') v) u := by
  obtain ⟨f_productionCount, f_textLength, f_anythingBuilt, f_tokenCount, f_parseValue, f_parsePlace, a_ruleTerms, a_ruleLengths, a_skips, a_grammar, a_ranks, a_groupings, a_text, a_heads, a_tails, a_empties, a_placeLetters, a_followers, a_ruleEnds, a_sets, a_steps, a_classes, a_finerClasses, a_states, a_moves, a_begins, a_lookaheads, a_builtCounts, a_builtSteps, a_builtMatches, a_builtSkips, a_builtGrammar, a_builtMoves, a_builtActions, a_tokenRules, a_tokenBegins, a_tokenEnds, a_stackStates, a_stackValues⟩ := u
  obtain ⟨g_productions, g_start, g_sets, g_states, g_conflicts, g_ready, g_length, g_tokens, g_stuck, g_scanned, g_value, g_place, b_term, b_size, b_skipped, b_left, b_right, b_width, b_op, b_constant, b_rank, b_grouping, b_bTerm, b_bSize, b_bSkipped, b_bLeft, b_bWidth, b_bOp, b_bConstant, b_follow, b_ends, b_first, b_last, b_none, b_set, b_leads, b_apart, b_state, b_to, b_look, b_begins, b_nullable, b_act, b_built, b_leadTo, b_text, b_fits, b_token, b_stack, b_worth⟩ := v
  have I0 := I
  obtain ⟨rfl, rfl, rfl, rfl, rfl, rfl, rfl, rfl, hr, hg, ht, hb⟩ := I
  obtain ⟨pc, L, W, R, rfl, rfl, hV, hX, hY, hO⟩ := hg
  have hpc := hV.1
  unfold wpX_retract wpY_retract
  dsimp only
  refine pk_eq pc 0 (fun e => ?_) (fun e => ?_)
  · exact br_t (by rw [e]; rfl) ⟨rfl, I0⟩
  · have e1 : nI pc - 1 = nI (pc - 1) := by rw [show (1 : Int32) = nI 1 from rfl, pk_sub (by omega)]
    refine nm_e (br_f (by rw [show (0 : Int32) = nI 0 from rfl, nI_eq (by omega) (by omega)]; exact e) (nm_e ⟨rfl, rl_mk rfl rfl rfl rfl rfl rfl rfl rfl hr ?_ ht hb⟩))
    exact ⟨pc - 1, L, W, R, e1, e1, ⟨by omega, hV.2.1, fun p hp => hV.2.2.1 p (by omega), hV.2.2.2⟩, hX, hY, hO⟩
theorem i_vc_rank {k : Nat} {u : SX} {v : SY} (I : i_Rel k u v) (hk : k + 5 ≤ 2560) (v1 : Int32) (v2 : Int32) (v3 : Int32) : wpX_rank (fun r u' => wpY_rank (fun r' v' => r' = r ∧ i_Rel (k + 5) u' v') v v1 v2 v3) u v1 v2 v3 := by
  obtain ⟨f_productionCount, f_textLength, f_anythingBuilt, f_tokenCount, f_parseValue, f_parsePlace, a_ruleTerms, a_ruleLengths, a_skips, a_grammar, a_ranks, a_groupings, a_text, a_heads, a_tails, a_empties, a_placeLetters, a_followers, a_ruleEnds, a_sets, a_steps, a_classes, a_finerClasses, a_states, a_moves, a_begins, a_lookaheads, a_builtCounts, a_builtSteps, a_builtMatches, a_builtSkips, a_builtGrammar, a_builtMoves, a_builtActions, a_tokenRules, a_tokenBegins, a_tokenEnds, a_stackStates, a_stackValues⟩ := u
  obtain ⟨g_productions, g_start, g_sets, g_states, g_conflicts, g_ready, g_length, g_tokens, g_stuck, g_scanned, g_value, g_place, b_term, b_size, b_skipped, b_left, b_right, b_width, b_op, b_constant, b_rank, b_grouping, b_bTerm, b_bSize, b_bSkipped, b_bLeft, b_bWidth, b_bOp, b_bConstant, b_follow, b_ends, b_first, b_last, b_none, b_set, b_leads, b_apart, b_state, b_to, b_look, b_begins, b_nullable, b_act, b_built, b_leadTo, b_text, b_fits, b_token, b_stack, b_worth⟩ := v
  have I0 := I
  obtain ⟨rfl, rfl, rfl, rfl, rfl, rfl, rfl, rfl, hr, hg, ht, hb⟩ := I
  unfold wpX_rank wpY_rank
  dsimp only
  rcases zn_bel v1 (n := 4) (by omega) with h1 | ⟨r, hr4, rfl⟩
  · exact ib_f h1 (br_t rfl (am_f h1 (br_t rfl ⟨rfl, I0⟩)))
  rcases zn_bel v2 (n := 6) (by omega) with h2 | ⟨t, ht6, rfl⟩
  · exact ib_t r 4 hr4 (br_f (by decide) (ib_f h2 (br_t rfl (am_t r 4 hr4 (br_f (by decide) (am_f h2 (br_t rfl ⟨rfl, I0⟩)))))))
  rcases zn_bel v3 (n := 3) (by omega) with h3 | ⟨q, hq, rfl⟩
  · exact ib_t r 4 hr4 (br_f (by decide) (ib_t t 6 ht6 (br_f (by decide) (ib_f h3 (br_t rfl (am_t r 4 hr4 (br_f (by decide) (am_t t 6 ht6 (br_f (by decide) (am_f h3 (br_t rfl ⟨rfl, I0⟩)))))))))))
  have i1 : vp_in (nI r) 4 := vp_in_nI hr4 (by omega)
  exact ib_t r 4 hr4 (br_f (by decide) (ib_t t 6 ht6 (br_f (by decide) (ib_t q 3 hq (br_f (by decide) ⟨i1, nm_e ⟨i1, nm_e (am_t r 4 hr4 (br_f (by decide) (am_t t 6 ht6 (br_f (by decide) (am_t q 3 hq (br_f (by decide) ⟨i1, nm_e ⟨i1, nm_e ⟨rfl, rl_mk rfl rfl rfl rfl rfl rfl rfl rfl hr hg ht hb⟩⟩⟩))))))⟩⟩)))))
theorem i_vc_wipe {k : Nat} {u : SX} {v : SY} (I : i_Rel k u v) (hk : k + 5 ≤ 2560) : wpX_wipe (fun r u' => wpY_wipe (fun r' v' => r' = r ∧ i_Rel (k + 5) u' v') v) u := by
  obtain ⟨f_productionCount, f_textLength, f_anythingBuilt, f_tokenCount, f_parseValue, f_parsePlace, a_ruleTerms, a_ruleLengths, a_skips, a_grammar, a_ranks, a_groupings, a_text, a_heads, a_tails, a_empties, a_placeLetters, a_followers, a_ruleEnds, a_sets, a_steps, a_classes, a_finerClasses, a_states, a_moves, a_begins, a_lookaheads, a_builtCounts, a_builtSteps, a_builtMatches, a_builtSkips, a_builtGrammar, a_builtMoves, a_builtActions, a_tokenRules, a_tokenBegins, a_tokenEnds, a_stackStates, a_stackValues⟩ := u
  obtain ⟨g_productions, g_start, g_sets, g_states, g_conflicts, g_ready, g_length, g_tokens, g_stuck, g_scanned, g_value, g_place, b_term, b_size, b_skipped, b_left, b_right, b_width, b_op, b_constant, b_rank, b_grouping, b_bTerm, b_bSize, b_bSkipped, b_bLeft, b_bWidth, b_bOp, b_bConstant, b_follow, b_ends, b_first, b_last, b_none, b_set, b_leads, b_apart, b_state, b_to, b_look, b_begins, b_nullable, b_act, b_built, b_leadTo, b_text, b_fits, b_token, b_stack, b_worth⟩ := v
  obtain ⟨rfl, rfl, rfl, rfl, rfl, rfl, rfl, rfl, hr, hg, ht, hb⟩ := I
  obtain ⟨n, hn, rfl, rfl, hl⟩ := ht
  refine ⟨rfl, rl_mk rfl rfl rfl rfl rfl rfl rfl rfl hr hg ⟨0, by omega, rfl, rfl, hl⟩ ?_⟩
  rcases hb with h | ⟨h1, h2, h3, h4, h5, h6, h7⟩
  · exact Or.inl h
  · exact Or.inr ⟨h1, h2, h3, h4, h5, h6, Or.inl rfl⟩
theorem i_vc_put {k : Nat} {u : SX} {v : SY} (I : i_Rel k u v) (hk : k + 5 ≤ 2560) (v1 : Int32) : wpX_put (fun r u' => wpY_put (fun r' v' => r' = r ∧ i_Rel (k + 5) u' v') v v1) u v1 := by
  obtain ⟨f_productionCount, f_textLength, f_anythingBuilt, f_tokenCount, f_parseValue, f_parsePlace, a_ruleTerms, a_ruleLengths, a_skips, a_grammar, a_ranks, a_groupings, a_text, a_heads, a_tails, a_empties, a_placeLetters, a_followers, a_ruleEnds, a_sets, a_steps, a_classes, a_finerClasses, a_states, a_moves, a_begins, a_lookaheads, a_builtCounts, a_builtSteps, a_builtMatches, a_builtSkips, a_builtGrammar, a_builtMoves, a_builtActions, a_tokenRules, a_tokenBegins, a_tokenEnds, a_stackStates, a_stackValues⟩ := u
  obtain ⟨g_productions, g_start, g_sets, g_states, g_conflicts, g_ready, g_length, g_tokens, g_stuck, g_scanned, g_value, g_place, b_term, b_size, b_skipped, b_left, b_right, b_width, b_op, b_constant, b_rank, b_grouping, b_bTerm, b_bSize, b_bSkipped, b_bLeft, b_bWidth, b_bOp, b_bConstant, b_follow, b_ends, b_first, b_last, b_none, b_set, b_leads, b_apart, b_state, b_to, b_look, b_begins, b_nullable, b_act, b_built, b_leadTo, b_text, b_fits, b_token, b_stack, b_worth⟩ := v
  have I0 := I
  obtain ⟨rfl, rfl, rfl, rfl, rfl, rfl, rfl, rfl, hr, hg, ht, hb⟩ := I
  obtain ⟨n, hn, rfl, rfl, hl⟩ := ht
  unfold wpX_put wpY_put
  dsimp only
  rcases zn_bel v1 (n := 4) (by omega) with h1 | ⟨r, hr4, rfl⟩
  · exact ib_f h1 (br_t rfl (am_f h1 (br_t rfl ⟨rfl, I0⟩)))
  refine ib_t r 4 hr4 (br_f (by decide) (pk_eq n 20 (fun e => ?_) (fun e => ?_)))
  · exact am_t r 4 hr4 (br_f (by decide) (br_t (by rw [e]; rfl) ⟨rfl, I0⟩))
  have i1 : vp_in (nI n) 20 := vp_in_nI (by omega) (by omega)
  refine ⟨i1, nm_e (nm_r (nI_1 n) ?_)⟩
  refine am_t r 4 hr4 (br_f (by decide) (br_f (by rw [show (20 : Int32) = nI 20 from rfl, nI_eq (by omega) (by omega)]; exact e) (nm_r (nI_1 n) ⟨i1, nm_e ⟨rfl, rl_mk rfl rfl rfl rfl rfl rfl rfl rfl hr hg ⟨n + 1, by omega, rfl, rfl, fun j => ?_⟩ ?_⟩⟩)))
  · by_cases e : j = (nI n).toNatClampNeg
    · rw [e]; exact ⟨r, hr4, pk_us⟩
    · rw [pk_un e]; exact hl j
  · rcases hb with h | ⟨h1, h2, h3, h4, h5, h6, h7⟩
    · exact Or.inl h
    · exact Or.inr ⟨h1, h2, h3, h4, h5, h6, Or.inl rfl⟩
theorem i_vc_built {k : Nat} {u : SX} {v : SY} (I : i_Rel k u v) (hk : k + 5 ≤ 2560) (v1 : Int32) : wpX_built (fun r => wpY_built (fun r' => r' = r ∧ i_Rel (k + 5) u v) v v1) u v1 := by
  obtain ⟨f_productionCount, f_textLength, f_anythingBuilt, f_tokenCount, f_parseValue, f_parsePlace, a_ruleTerms, a_ruleLengths, a_skips, a_grammar, a_ranks, a_groupings, a_text, a_heads, a_tails, a_empties, a_placeLetters, a_followers, a_ruleEnds, a_sets, a_steps, a_classes, a_finerClasses, a_states, a_moves, a_begins, a_lookaheads, a_builtCounts, a_builtSteps, a_builtMatches, a_builtSkips, a_builtGrammar, a_builtMoves, a_builtActions, a_tokenRules, a_tokenBegins, a_tokenEnds, a_stackStates, a_stackValues⟩ := u
  obtain ⟨g_productions, g_start, g_sets, g_states, g_conflicts, g_ready, g_length, g_tokens, g_stuck, g_scanned, g_value, g_place, b_term, b_size, b_skipped, b_left, b_right, b_width, b_op, b_constant, b_rank, b_grouping, b_bTerm, b_bSize, b_bSkipped, b_bLeft, b_bWidth, b_bOp, b_bConstant, b_follow, b_ends, b_first, b_last, b_none, b_set, b_leads, b_apart, b_state, b_to, b_look, b_begins, b_nullable, b_act, b_built, b_leadTo, b_text, b_fits, b_token, b_stack, b_worth⟩ := v
  have I0 := I
  obtain ⟨rfl, rfl, rfl, rfl, rfl, rfl, rfl, rfl, hr, hg, ht, hb⟩ := I
  unfold wpX_built wpY_built
  dsimp only
  rcases hb with ⟨rfl, rfl⟩ | ⟨rfl, rfl, hcn, -⟩
  · exact br_t rfl (br_t rfl ⟨rfl, I0⟩)
  rcases zn_bel v1 (n := 4) (by omega) with h1 | ⟨r, hr4, rfl⟩
  · exact br_f (by decide) (ib_f h1 (br_t rfl (br_f (by decide) (am_f h1 (br_t rfl ⟨rfl, I0⟩)))))
  have i1 : vp_in (nI r) 4 := vp_in_nI hr4 (by omega)
  refine br_f (by decide) (ib_t r 4 hr4 (br_f (by decide) ⟨i1, br_f (by decide) (am_t r 4 hr4 (br_f (by decide) ⟨i1, ?_, I0⟩))⟩))
  rw [nI_clamp (by omega)]
  exact (hcn r hr4).symm
end
section
/-! produce and action -/
theorem gr_Xact {g : Nat → Int32} {L W : Nat → Nat} {R : Nat → Nat → Nat} {p : Nat} {x y : Int32} (hW : ∀ p, W p ≤ 3) (h : gr_X g L W R) : gr_X (upd (upd g (7 * p + 5) x) (7 * p + 6) y) L W R := by
  intro q hq
  have := hW q
  obtain ⟨h1, h2, h3⟩ := h q hq
  refine ⟨by rw [pk_un (by omega), pk_un (by omega)]; exact h1, by rw [pk_un (by omega), pk_un (by omega)]; exact h2, fun k hk => ?_⟩
  rw [pk_un (by omega), pk_un (by omega)]; exact h3 k hk
theorem gr_Oact {g op co : Nat → Int32} {p o : Nat} {y : Int32} (ho : o < 4) (h : gr_O g op co) : gr_O (upd (upd g (7 * p + 5) (nI o)) (7 * p + 6) y) (upd op p (nI o)) (upd co p y) := by
  intro q hq
  obtain ⟨h1, h2, h3⟩ := h q hq
  by_cases e : q = p
  · subst e
    rw [pk_us, pk_us, pk_us, pk_un (by omega), pk_us]
    exact ⟨rfl, rfl, o, ho, rfl⟩
  · refine ⟨?_, ?_, ?_⟩
    · rw [pk_un (by omega), pk_un (by omega), pk_un e]; exact h1
    · rw [pk_un (by omega), pk_un (by omega), pk_un e]; exact h2
    · rw [pk_un e]; exact h3
theorem i_vc_action {k : Nat} {u : SX} {v : SY} (I : i_Rel k u v) (hk : k + 5 ≤ 2560) (v1 : Int32) (v2 : Int32) (v3 : Int32) : wpX_action (fun r u' => wpY_action (fun r' v' => r' = r ∧ i_Rel (k + 5) u' v') v v1 v2 v3) u v1 v2 v3 := by
  obtain ⟨f_productionCount, f_textLength, f_anythingBuilt, f_tokenCount, f_parseValue, f_parsePlace, a_ruleTerms, a_ruleLengths, a_skips, a_grammar, a_ranks, a_groupings, a_text, a_heads, a_tails, a_empties, a_placeLetters, a_followers, a_ruleEnds, a_sets, a_steps, a_classes, a_finerClasses, a_states, a_moves, a_begins, a_lookaheads, a_builtCounts, a_builtSteps, a_builtMatches, a_builtSkips, a_builtGrammar, a_builtMoves, a_builtActions, a_tokenRules, a_tokenBegins, a_tokenEnds, a_stackStates, a_stackValues⟩ := u
  obtain ⟨g_productions, g_start, g_sets, g_states, g_conflicts, g_ready, g_length, g_tokens, g_stuck, g_scanned, g_value, g_place, b_term, b_size, b_skipped, b_left, b_right, b_width, b_op, b_constant, b_rank, b_grouping, b_bTerm, b_bSize, b_bSkipped, b_bLeft, b_bWidth, b_bOp, b_bConstant, b_follow, b_ends, b_first, b_last, b_none, b_set, b_leads, b_apart, b_state, b_to, b_look, b_begins, b_nullable, b_act, b_built, b_leadTo, b_text, b_fits, b_token, b_stack, b_worth⟩ := v
  have I0 := I
  obtain ⟨rfl, rfl, rfl, rfl, rfl, rfl, rfl, rfl, hr, hg, ht, hb⟩ := I
  obtain ⟨pc, L, W, R, rfl, rfl, hV, hX, hY, hO⟩ := hg
  have hpc := hV.1
  unfold wpX_action wpY_action
  dsimp only
  rcases zn_bel v1 (n := pc) (by omega) with h1 | ⟨p, hp, rfl⟩
  · exact ib_f h1 (br_t rfl (am_f h1 (br_t rfl ⟨rfl, I0⟩)))
  rcases zn_bel v2 (n := 4) (by omega) with h2 | ⟨o, ho, rfl⟩
  · exact ib_t p pc hp (br_f (by decide) (ib_f h2 (br_t rfl (am_t p pc hp (br_f (by decide) (am_f h2 (br_t rfl ⟨rfl, I0⟩)))))))
  have e5 : nI p * 7 + 5 = nI (7 * p + 5) := by rw [show (7 : Int32) = nI 7 from rfl, show (5 : Int32) = nI 5 from rfl, pk_mul, nI_add]; congr 1; omega
  have e6 : nI p * 7 + 6 = nI (7 * p + 6) := by rw [show (7 : Int32) = nI 7 from rfl, show (6 : Int32) = nI 6 from rfl, pk_mul, nI_add]; congr 1; omega
  have i1 : vp_in (nI p) 8 := vp_in_nI (by omega) (by omega)
  refine ib_t p pc hp (br_f (by decide) (ib_t o 4 ho (br_f (by decide) ?_)))
  rw [e5, e6, nI_clamp (by omega), nI_clamp (by omega)]
  refine ⟨vp_in_nI (by omega) (by omega), nm_e ⟨vp_in_nI (by omega) (by omega), nm_e ?_⟩⟩
  refine am_t p pc hp (br_f (by decide) (am_t o 4 ho (br_f (by decide) ?_)))
  rw [nI_clamp (by omega)]
  refine ⟨i1, nm_e ⟨i1, nm_e ⟨rfl, rl_mk rfl rfl rfl rfl rfl rfl rfl rfl hr ?_ ht hb⟩⟩⟩
  exact ⟨pc, L, W, R, rfl, rfl, hV, gr_Xact (fun p => (hV.2.1 p).2.1) hX, hY, gr_Oact ho hO⟩
theorem zi_9 {s : Int32} (h : s < 10) : s ≤ 9 := by
  rw [Int32.lt_iff_toInt_lt, show (10 : Int32).toInt = 10 from by decide] at h
  rw [Int32.le_iff_toInt_le, show (9 : Int32).toInt = 9 from by decide]
  omega
theorem zi_m1 {s : Int32} (h : s < 0) : s ≤ -1 := by
  rw [Int32.lt_iff_toInt_lt, show (0 : Int32).toInt = 0 from by decide] at h
  rw [Int32.le_iff_toInt_le, show (-1 : Int32).toInt = -1 from by decide]
  omega
def okS (s : Int32) : Prop := s = -1 ∨ ∃ j, sym j ∧ s = nI j
def okL (s : Int32) : Prop := ∃ j, (10 ≤ j ∧ j < 13) ∧ s = nI j
theorem xn_t {post : Int32 → Prop} {s : Int32} (h : okL s) (hp : post 1) : wpX_isNonterminal post s := by
  obtain ⟨j, hj, rfl⟩ := h
  exact pk_lt j 10 (fun z => absurd z (by omega)) (fun _ => pk_le 13 j (fun z => absurd z (by omega)) (fun _ => hp))
theorem nl_c {s : Int32} (h : ¬ okL s) : s < 10 ∨ 13 ≤ s := by
  rcases pk_ix s (n := 13) (by omega) with h1 | h1 | ⟨j, hj, rfl⟩
  · exact Or.inl (Int32.lt_trans h1 (by decide))
  · exact Or.inr h1
  · exact Or.inl (nI_lt (b := 10) (Nat.lt_of_not_le fun z => h ⟨j, ⟨z, hj⟩, rfl⟩) (by omega))
theorem xn_f {post : Int32 → Prop} {s : Int32} (h : ¬ okL s) (hp : post 0) : wpX_isNonterminal post s := by
  rcases nl_c h with h1 | h1
  · exact br_t h1 hp
  · exact br_c (fun _ => hp) (fun _ => br_t h1 hp)
theorem xs_t {post : Int32 → Prop} {s : Int32} (h : okS s) (hp : post 1) : wpX_isSymbolOrNone post s := by
  rcases h with rfl | ⟨j, hj, rfl⟩
  · exact br_t rfl hp
  · rcases hj with hj | hj
    · exact br_f (zn_ne1 (by omega)) (ib_t j 4 hj (br_f (by decide) hp))
    · exact br_f (zn_ne1 (by omega)) (ib_f (Or.inr (nI_le (a := 4) (by omega) (by omega))) (br_t rfl (xn_t ⟨j, hj, rfl⟩ (br_f (by decide) hp))))
theorem xs_f {post : Int32 → Prop} {s : Int32} (h : ¬ okS s) (hp : post 0) : wpX_isSymbolOrNone post s := by
  refine br_f (fun e => h (Or.inl e)) ?_
  have hn : ¬ okL s := fun ⟨j, hj, e⟩ => h (Or.inr ⟨j, Or.inr hj, e⟩)
  refine ib_f ?_ (br_t rfl (xn_f hn (br_t rfl hp)))
  rcases zn_bel s (n := 4) (by omega) with h1 | ⟨j, hj, rfl⟩
  · exact h1
  · exact absurd (Or.inr ⟨j, Or.inl hj, rfl⟩) h
section
variable {g_productions : Int32} {g_start : Int64} {g_sets g_states g_conflicts g_ready g_length g_tokens g_stuck g_scanned g_value g_place : Int32} {b_term b_size b_skipped b_left b_right b_width b_op b_constant b_rank b_grouping b_bTerm b_bSize b_bSkipped b_bLeft b_bWidth b_bOp b_bConstant : Nat → Int32} {b_follow b_ends b_first b_last : Nat → Int64} {b_none : Nat → Int32} {b_set : Nat → Int64} {b_leads b_apart : Nat → Int32} {b_state : Nat → Int64} {b_to b_look b_begins b_nullable b_act b_built b_leadTo b_text b_fits b_token b_stack b_worth : Nat → Int32} {post : Int32 → Prop} {s : Int32}
theorem ys_t (h : okS s) (hp : post 1) : wpY_symbol post (g_productions, g_start, g_sets, g_states, g_conflicts, g_ready, g_length, g_tokens, g_stuck, g_scanned, g_value, g_place, b_term, b_size, b_skipped, b_left, b_right, b_width, b_op, b_constant, b_rank, b_grouping, b_bTerm, b_bSize, b_bSkipped, b_bLeft, b_bWidth, b_bOp, b_bConstant, b_follow, b_ends, b_first, b_last, b_none, b_set, b_leads, b_apart, b_state, b_to, b_look, b_begins, b_nullable, b_act, b_built, b_leadTo, b_text, b_fits, b_token, b_stack, b_worth) s := by
  rcases h with rfl | ⟨j, hj, rfl⟩
  · exact br_f (by decide) (br_t (by decide) hp)
  · have h0 : ¬ nI j < -1 := fun z => nI_pos (n := j) (by rcases hj with h | h <;> omega) (Int32.lt_trans z (by decide))
    rcases hj with hj | hj
    · exact br_f h0 (br_t (nI_lt (b := 4) hj (by omega)) hp)
    · exact br_f h0 (br_f (nI_nlt (b := 4) (by omega) (by omega)) (br_f (nI_ge (b := j) (a := 9) (by omega) (by omega)) (br_f (nI_ge (b := 13) hj.2 (by omega)) hp)))
theorem ys_f (h : ¬ okS s) (hp : post 0) : wpY_symbol post (g_productions, g_start, g_sets, g_states, g_conflicts, g_ready, g_length, g_tokens, g_stuck, g_scanned, g_value, g_place, b_term, b_size, b_skipped, b_left, b_right, b_width, b_op, b_constant, b_rank, b_grouping, b_bTerm, b_bSize, b_bSkipped, b_bLeft, b_bWidth, b_bOp, b_bConstant, b_follow, b_ends, b_first, b_last, b_none, b_set, b_leads, b_apart, b_state, b_to, b_look, b_begins, b_nullable, b_act, b_built, b_leadTo, b_text, b_fits, b_token, b_stack, b_worth) s := by
  have hn : ¬ okL s := fun ⟨j, hj, e⟩ => h (Or.inr ⟨j, Or.inr hj, e⟩)
  have h10 : wY_symbol_10 post s g_productions g_start g_sets g_states g_conflicts g_ready g_length g_tokens g_stuck g_scanned g_value g_place b_term b_size b_skipped b_left b_right b_width b_op b_constant b_rank b_grouping b_bTerm b_bSize b_bSkipped b_bLeft b_bWidth b_bOp b_bConstant b_follow b_ends b_first b_last b_none b_set b_leads b_apart b_state b_to b_look b_begins b_nullable b_act b_built b_leadTo b_text b_fits b_token b_stack b_worth := by
    rcases nl_c hn with h1 | h1
    · exact br_t (zi_9 h1) hp
    · exact br_c (fun _ => hp) (fun _ => br_t h1 hp)
  rcases zn_bel s (n := 4) (by omega) with h1 | ⟨j, hj, rfl⟩
  · rcases h1 with h1 | h1
    · by_cases h2 : s < -1
      · exact br_t h2 h10
      · exact absurd (Or.inl (Int32.le_antisymm (zi_m1 h1) (Int32.not_lt.mp h2))) h
    · exact br_c (fun _ => h10) (fun _ => br_f (Int32.not_lt.mpr h1) h10)
  · exact absurd (Or.inr ⟨j, Or.inl hj, rfl⟩) h
end

/-- what produce wants -/
def pr_c (pc : Nat) (a b c d : Int32) : Prop := pc ≠ 8 ∧ okL a ∧ okS b ∧ okS c ∧ okS d ∧ (b ≠ -1 ∨ c = -1) ∧ (c ≠ -1 ∨ d = -1)
theorem sn_lt {s : Int32} (h : okS s) (h1 : s ≠ -1) : 0 ≤ s := by
  rcases h with h | ⟨j, hj, rfl⟩
  · exact absurd h h1
  · exact nI_pos' (by rcases hj with h | h <;> omega)
section
variable {f_productionCount f_textLength f_anythingBuilt f_tokenCount f_parseValue f_parsePlace : Int32} {a_ruleTerms a_ruleLengths a_skips a_grammar a_ranks a_groupings a_text a_heads a_tails a_empties a_placeLetters a_followers a_ruleEnds : Nat → Int32} {a_sets : Nat → Int64} {a_steps a_classes a_finerClasses : Nat → Int32} {a_states : Nat → Int64} {a_moves a_begins a_lookaheads a_builtCounts a_builtSteps a_builtMatches a_builtSkips a_builtGrammar a_builtMoves a_builtActions a_tokenRules a_tokenBegins a_tokenEnds a_stackStates a_stackValues : Nat → Int32} {post : Int32 → SX → Prop} {pc : Nat} {v1 v2 v3 v4 : Int32}
theorem xp_f (hpc : pc ≤ 8) (h : ¬ pr_c pc v1 v2 v3 v4) (hp : post (-1) (nI pc, f_textLength, f_anythingBuilt, f_tokenCount, f_parseValue, f_parsePlace, a_ruleTerms, a_ruleLengths, a_skips, a_grammar, a_ranks, a_groupings, a_text, a_heads, a_tails, a_empties, a_placeLetters, a_followers, a_ruleEnds, a_sets, a_steps, a_classes, a_finerClasses, a_states, a_moves, a_begins, a_lookaheads, a_builtCounts, a_builtSteps, a_builtMatches, a_builtSkips, a_builtGrammar, a_builtMoves, a_builtActions, a_tokenRules, a_tokenBegins, a_tokenEnds, a_stackStates, a_stackValues)) : wpX_produce post (nI pc, f_textLength, f_anythingBuilt, f_tokenCount, f_parseValue, f_parsePlace, a_ruleTerms, a_ruleLengths, a_skips, a_grammar, a_ranks, a_groupings, a_text, a_heads, a_tails, a_empties, a_placeLetters, a_followers, a_ruleEnds, a_sets, a_steps, a_classes, a_finerClasses, a_states, a_moves, a_begins, a_lookaheads, a_builtCounts, a_builtSteps, a_builtMatches, a_builtSkips, a_builtGrammar, a_builtMoves, a_builtActions, a_tokenRules, a_tokenBegins, a_tokenEnds, a_stackStates, a_stackValues) v1 v2 v3 v4 := by
  unfold wpX_produce
  dsimp only
  refine pk_eq pc 8 (fun _ => hp) (fun e8 => ?_)
  by_cases hL : okL v1
  · refine xn_t hL (br_f (by decide) ?_)
    unfold wpX_isRightSide
    by_cases h2 : okS v2
    · refine xs_t h2 (br_f (by decide) ?_)
      by_cases h3 : okS v3
      · refine xs_t h3 (br_f (by decide) ?_)
        by_cases h4 : okS v4
        · refine xs_t h4 (br_f (by decide) ?_)
          have q : ¬ (v3 ≠ -1 ∨ v4 = -1) → v3 = -1 ∧ v4 ≠ -1 := fun z => ⟨Decidable.byContradiction fun y => z (Or.inl y), fun y => z (Or.inr y)⟩
          by_cases s1 : v2 = -1
          · refine br_t s1 ?_
            by_cases s2 : v3 = -1
            · have := q (fun z => h ⟨e8, hL, h2, h3, h4, Or.inr s2, z⟩)
              exact br_t s2 (br_t s2 (br_f this.2 (br_t rfl hp)))
            · exact br_f s2 (br_t rfl hp)
          · have := q (fun z => h ⟨e8, hL, h2, h3, h4, Or.inl s1, z⟩)
            exact br_f s1 (br_t this.1 (br_f this.2 (br_t rfl hp)))
        · exact xs_f h4 (br_t rfl (br_t rfl hp))
      · exact xs_f h3 (br_t rfl (br_t rfl hp))
    · exact xs_f h2 (br_t rfl (br_t rfl hp))
  · exact xn_f hL (br_t rfl hp)
theorem xp_t (h : pr_c pc v1 v2 v3 v4) (w : Nat) (hw : (v2 = -1 ∧ w = 0) ∨ (v2 ≠ -1 ∧ v3 = -1 ∧ w = 1) ∨ (v2 ≠ -1 ∧ v3 ≠ -1 ∧ v4 = -1 ∧ w = 2) ∨ (v2 ≠ -1 ∧ v3 ≠ -1 ∧ v4 ≠ -1 ∧ w = 3)) (hpc : pc ≤ 8)
    (hp : post (nI pc) (nI (pc + 1), f_textLength, f_anythingBuilt, f_tokenCount, f_parseValue, f_parsePlace, a_ruleTerms, a_ruleLengths, a_skips, upd (upd (upd (upd (upd (upd (upd a_grammar (7 * pc) v1) (7 * pc + 1) (nI w)) (7 * pc + 2) v2) (7 * pc + 3) v3) (7 * pc + 4) v4) (7 * pc + 5) 0) (7 * pc + 6) 0, a_ranks, a_groupings, a_text, a_heads, a_tails, a_empties, a_placeLetters, a_followers, a_ruleEnds, a_sets, a_steps, a_classes, a_finerClasses, a_states, a_moves, a_begins, a_lookaheads, a_builtCounts, a_builtSteps, a_builtMatches, a_builtSkips, a_builtGrammar, a_builtMoves, a_builtActions, a_tokenRules, a_tokenBegins, a_tokenEnds, a_stackStates, a_stackValues)) :
    wpX_produce post (nI pc, f_textLength, f_anythingBuilt, f_tokenCount, f_parseValue, f_parsePlace, a_ruleTerms, a_ruleLengths, a_skips, a_grammar, a_ranks, a_groupings, a_text, a_heads, a_tails, a_empties, a_placeLetters, a_followers, a_ruleEnds, a_sets, a_steps, a_classes, a_finerClasses, a_states, a_moves, a_begins, a_lookaheads, a_builtCounts, a_builtSteps, a_builtMatches, a_builtSkips, a_builtGrammar, a_builtMoves, a_builtActions, a_tokenRules, a_tokenBegins, a_tokenEnds, a_stackStates, a_stackValues) v1 v2 v3 v4 := by
  obtain ⟨e8, hL, h2, h3, h4, s1, s2⟩ := h
  have f : ∀ d, nI pc * 7 + nI d = nI (7 * pc + d) := fun d => by rw [show (7 : Int32) = nI 7 from rfl, pk_mul, nI_add]; congr 1; omega
  have key : ∀ (z : Int32) (e : z = nI w) (gr : Nat → Int32), gr = upd a_grammar (7 * pc) v1 → wX_produce_84 post v2 v3 v4 (nI pc * 7) z (nI pc * 7 + 1) (nI pc) f_textLength f_anythingBuilt f_tokenCount f_parseValue f_parsePlace a_ruleTerms a_ruleLengths a_skips gr a_ranks a_groupings a_text a_heads a_tails a_empties a_placeLetters a_followers a_ruleEnds a_sets a_steps a_classes a_finerClasses a_states a_moves a_begins a_lookaheads a_builtCounts a_builtSteps a_builtMatches a_builtSkips a_builtGrammar a_builtMoves a_builtActions a_tokenRules a_tokenBegins a_tokenEnds a_stackStates a_stackValues := by
    intro z e gr eg
    subst e eg
    unfold wX_produce_84
    rw [show nI pc * 7 + 2 + 1 = nI (7 * pc + 3) from by rw [show (2 : Int32) = nI 2 from rfl, f]; exact nI_1 _, show nI pc * 7 + 2 + 2 = nI (7 * pc + 4) from by rw [show (2 : Int32) = nI 2 from rfl, f, nI_add], show nI pc * 7 + 1 = nI (7 * pc + 1) from f 1, show nI pc * 7 + 2 = nI (7 * pc + 2) from f 2, show nI pc * 7 + 5 = nI (7 * pc + 5) from f 5, show nI pc * 7 + 6 = nI (7 * pc + 6) from f 6]
    rw [nI_clamp (by omega), nI_clamp (by omega), nI_clamp (by omega), nI_clamp (by omega), nI_clamp (by omega), nI_clamp (by omega)]
    refine ⟨vp_in_nI (by omega) (by omega), nm_e ⟨vp_in_nI (by omega) (by omega), nm_e ⟨vp_in_nI (by omega) (by omega), nm_e ⟨vp_in_nI (by omega) (by omega), nm_e ⟨vp_in_nI (by omega) (by omega), nm_e ⟨vp_in_nI (by omega) (by omega), nm_e (nm_r (nI_1 pc) ?_)⟩⟩⟩⟩⟩⟩
    rw [nI_pred]
    exact hp
  unfold wpX_produce
  dsimp only
  refine pk_eq pc 8 (fun e => absurd e e8) (fun _ => xn_t hL (br_f (by decide) ?_))
  unfold wpX_isRightSide
  refine xs_t h2 (br_f (by decide) (xs_t h3 (br_f (by decide) (xs_t h4 (br_f (by decide) ?_)))))
  have go : ∀ {P : Prop}, ((1 : Int32) = 0 → P) ∧ (¬ (1 : Int32) = 0 → (∀ x5_6 : Int32, x5_6 = nI pc * 7 → vp_in (x5_6 + 0) 63 ∧ ∀ a_grammar_8 : Nat → Int32, a_grammar_8 = upd a_grammar (x5_6 + 0).toNatClampNeg v1 → (v2 = -1 → wX_produce_84 post v2 v3 v4 x5_6 0 (x5_6 + 1) (nI pc) f_textLength f_anythingBuilt f_tokenCount f_parseValue f_parsePlace a_ruleTerms a_ruleLengths a_skips a_grammar_8 a_ranks a_groupings a_text a_heads a_tails a_empties a_placeLetters a_followers a_ruleEnds a_sets a_steps a_classes a_finerClasses a_states a_moves a_begins a_lookaheads a_builtCounts a_builtSteps a_builtMatches a_builtSkips a_builtGrammar a_builtMoves a_builtActions a_tokenRules a_tokenBegins a_tokenEnds a_stackStates a_stackValues) ∧ (¬ v2 = -1 → (v3 = -1 → wX_produce_84 post v2 v3 v4 x5_6 1 (x5_6 + 1) (nI pc) f_textLength f_anythingBuilt f_tokenCount f_parseValue f_parsePlace a_ruleTerms a_ruleLengths a_skips a_grammar_8 a_ranks a_groupings a_text a_heads a_tails a_empties a_placeLetters a_followers a_ruleEnds a_sets a_steps a_classes a_finerClasses a_states a_moves a_begins a_lookaheads a_builtCounts a_builtSteps a_builtMatches a_builtSkips a_builtGrammar a_builtMoves a_builtActions a_tokenRules a_tokenBegins a_tokenEnds a_stackStates a_stackValues) ∧ (¬ v3 = -1 → (v4 = -1 → wX_produce_84 post v2 v3 v4 x5_6 2 (x5_6 + 1) (nI pc) f_textLength f_anythingBuilt f_tokenCount f_parseValue f_parsePlace a_ruleTerms a_ruleLengths a_skips a_grammar_8 a_ranks a_groupings a_text a_heads a_tails a_empties a_placeLetters a_followers a_ruleEnds a_sets a_steps a_classes a_finerClasses a_states a_moves a_begins a_lookaheads a_builtCounts a_builtSteps a_builtMatches a_builtSkips a_builtGrammar a_builtMoves a_builtActions a_tokenRules a_tokenBegins a_tokenEnds a_stackStates a_stackValues) ∧ (¬ v4 = -1 → wX_produce_84 post v2 v3 v4 x5_6 3 (x5_6 + 1) (nI pc) f_textLength f_anythingBuilt f_tokenCount f_parseValue f_parsePlace a_ruleTerms a_ruleLengths a_skips a_grammar_8 a_ranks a_groupings a_text a_heads a_tails a_empties a_placeLetters a_followers a_ruleEnds a_sets a_steps a_classes a_finerClasses a_states a_moves a_begins a_lookaheads a_builtCounts a_builtSteps a_builtMatches a_builtSkips a_builtGrammar a_builtMoves a_builtActions a_tokenRules a_tokenBegins a_tokenEnds a_stackStates a_stackValues))))) := by
    intro P
    refine br_f (by decide) (nm_e ?_)
    rw [show nI pc * 7 + 0 = nI (7 * pc) from f 0, nI_clamp (by omega)]
    refine ⟨vp_in_nI (by omega) (by omega), nm_e ?_⟩
    rcases hw with ⟨a, e⟩ | ⟨a, b, e⟩ | ⟨a, b, c, e⟩ | ⟨a, b, c, e⟩
    · exact br_t a (key _ (by rw [e]; rfl) _ rfl)
    · exact br_f a (br_t b (key _ (by rw [e]; rfl) _ rfl))
    · exact br_f a (br_f b (br_t c (key _ (by rw [e]; rfl) _ rfl)))
    · exact br_f a (br_f b (br_f c (key _ (by rw [e]; rfl) _ rfl)))
  have g33 : v3 ≠ -1 ∨ v4 = -1 → ∀ {Q : Int32 → Prop}, Q 1 → wX_isRightSide_33 Q v3 v4 := by
    intro hz Q hQ
    by_cases a : v3 = -1
    · exact br_t a (br_t (hz.resolve_left (fun z => z a)) hQ)
    · exact br_f a hQ
  by_cases a : v2 = -1
  · exact br_t a (br_t (s1.resolve_left (fun z => z a)) (g33 s2 go))
  · exact br_f a (g33 s2 go)
end
section
variable {g_productions : Int32} {g_start : Int64} {g_sets g_states g_conflicts g_ready g_length g_tokens g_stuck g_scanned g_value g_place : Int32} {b_term b_size b_skipped b_left b_right b_width b_op b_constant b_rank b_grouping b_bTerm b_bSize b_bSkipped b_bLeft b_bWidth b_bOp b_bConstant : Nat → Int32} {b_follow b_ends b_first b_last : Nat → Int64} {b_none : Nat → Int32} {b_set : Nat → Int64} {b_leads b_apart : Nat → Int32} {b_state : Nat → Int64} {b_to b_look b_begins b_nullable b_act b_built b_leadTo b_text b_fits b_token b_stack b_worth : Nat → Int32} {post : Int32 → SY → Prop} {pc : Nat} {v1 v2 v3 v4 : Int32}
theorem yp_f (hpc : pc ≤ 8) (h : ¬ pr_c pc v1 v2 v3 v4) (hp : post (-1) (nI pc, g_start, g_sets, g_states, g_conflicts, g_ready, g_length, g_tokens, g_stuck, g_scanned, g_value, g_place, b_term, b_size, b_skipped, b_left, b_right, b_width, b_op, b_constant, b_rank, b_grouping, b_bTerm, b_bSize, b_bSkipped, b_bLeft, b_bWidth, b_bOp, b_bConstant, b_follow, b_ends, b_first, b_last, b_none, b_set, b_leads, b_apart, b_state, b_to, b_look, b_begins, b_nullable, b_act, b_built, b_leadTo, b_text, b_fits, b_token, b_stack, b_worth)) : wpY_produce post (nI pc, g_start, g_sets, g_states, g_conflicts, g_ready, g_length, g_tokens, g_stuck, g_scanned, g_value, g_place, b_term, b_size, b_skipped, b_left, b_right, b_width, b_op, b_constant, b_rank, b_grouping, b_bTerm, b_bSize, b_bSkipped, b_bLeft, b_bWidth, b_bOp, b_bConstant, b_follow, b_ends, b_first, b_last, b_none, b_set, b_leads, b_apart, b_state, b_to, b_look, b_begins, b_nullable, b_act, b_built, b_leadTo, b_text, b_fits, b_token, b_stack, b_worth) v1 v2 v3 v4 := by
  unfold wpY_produce
  dsimp only
  by_cases hL : okL v1
  · obtain ⟨l, hl, rfl⟩ := hL
    refine br_f (nI_nlt (b := 10) hl.1 (by omega)) (br_f (nI_nlt (a := 12) (by omega) (by omega)) ?_)
    by_cases h2 : okS v2
    · refine ys_t h2 (br_f (by decide) ?_)
      by_cases h3 : okS v3
      · refine ys_t h3 (br_f (by decide) ?_)
        by_cases h4 : okS v4
        · refine ys_t h4 (br_f (by decide) ?_)
          have w54 : (pc ≠ 8 → (v2 ≠ -1 ∨ v3 = -1) → (v3 ≠ -1 ∨ v4 = -1) → False) → (v2 ≠ -1 ∨ v3 = -1) → wY_produce_45 post (nI l) v2 v3 v4 (nI pc) g_start g_sets g_states g_conflicts g_ready g_length g_tokens g_stuck g_scanned g_value g_place b_term b_size b_skipped b_left b_right b_width b_op b_constant b_rank b_grouping b_bTerm b_bSize b_bSkipped b_bLeft b_bWidth b_bOp b_bConstant b_follow b_ends b_first b_last b_none b_set b_leads b_apart b_state b_to b_look b_begins b_nullable b_act b_built b_leadTo b_text b_fits b_token b_stack b_worth := by
            intro hz s1
            by_cases s2 : v3 = -1
            · by_cases s3 : v4 = -1
              · rw [s2, s3]
                refine br_f (by decide) (br_f (by decide) (pk_eq pc 8 (fun _ => hp) (fun e => absurd (hz e s1 (Or.inr s3)) id)))
              · refine br_f (by rw [s2]; decide) (br_t (sn_lt h4 s3) hp)
            · exact br_t (sn_lt h3 s2) (pk_eq pc 8 (fun _ => hp) (fun e => absurd (hz e s1 (Or.inl s2)) id))
          have hz : pc ≠ 8 → (v2 ≠ -1 ∨ v3 = -1) → (v3 ≠ -1 ∨ v4 = -1) → False := fun a b c => h ⟨a, ⟨l, hl, rfl⟩, h2, h3, h4, b, c⟩
          by_cases s1 : v2 = -1
          · refine br_f (by rw [s1]; decide) ?_
            by_cases s2 : v3 = -1
            · exact br_f (by rw [s2]; decide) (w54 hz (Or.inr s2))
            · exact br_t (sn_lt h3 s2) hp
          · exact br_t (sn_lt h2 s1) (w54 hz (Or.inl s1))
        · exact ys_f h4 (br_t rfl hp)
      · exact ys_f h3 (br_t rfl hp)
    · exact ys_f h2 (br_t rfl hp)
  · by_cases a : v1 < 10
    · exact br_t a hp
    · refine br_f a (br_t ?_ hp)
      have := (nl_c hL).resolve_left a
      exact Int32.lt_of_lt_of_le (by decide) this
theorem yp_t (h : pr_c pc v1 v2 v3 v4) (w : Nat) (hw : (v2 = -1 ∧ w = 0) ∨ (v2 ≠ -1 ∧ v3 = -1 ∧ w = 1) ∨ (v2 ≠ -1 ∧ v3 ≠ -1 ∧ v4 = -1 ∧ w = 2) ∨ (v2 ≠ -1 ∧ v3 ≠ -1 ∧ v4 ≠ -1 ∧ w = 3)) (hpc : pc ≤ 8)
    (hp : post (nI pc) (nI (pc + 1), g_start, g_sets, g_states, g_conflicts, g_ready, g_length, g_tokens, g_stuck, g_scanned, g_value, g_place, b_term, b_size, b_skipped, upd b_left pc v1, upd (upd (upd b_right (3 * pc) v2) (3 * pc + 1) v3) (3 * pc + 2) v4, upd b_width pc (nI w), upd b_op pc 0, upd b_constant pc 0, b_rank, b_grouping, b_bTerm, b_bSize, b_bSkipped, b_bLeft, b_bWidth, b_bOp, b_bConstant, b_follow, b_ends, b_first, b_last, b_none, b_set, b_leads, b_apart, b_state, b_to, b_look, b_begins, b_nullable, b_act, b_built, b_leadTo, b_text, b_fits, b_token, b_stack, b_worth)) :
    wpY_produce post (nI pc, g_start, g_sets, g_states, g_conflicts, g_ready, g_length, g_tokens, g_stuck, g_scanned, g_value, g_place, b_term, b_size, b_skipped, b_left, b_right, b_width, b_op, b_constant, b_rank, b_grouping, b_bTerm, b_bSize, b_bSkipped, b_bLeft, b_bWidth, b_bOp, b_bConstant, b_follow, b_ends, b_first, b_last, b_none, b_set, b_leads, b_apart, b_state, b_to, b_look, b_begins, b_nullable, b_act, b_built, b_leadTo, b_text, b_fits, b_token, b_stack, b_worth) v1 v2 v3 v4 := by
  obtain ⟨e8, ⟨l, hl, rfl⟩, h2, h3, h4, s1, s2⟩ := h
  have f : ∀ d, 3 * nI pc + nI d = nI (3 * pc + d) := fun d => by rw [show (3 : Int32) = nI 3 from rfl, pk_mul, nI_add]
  have f0 : 3 * nI pc = nI (3 * pc) := by rw [show (3 : Int32) = nI 3 from rfl, pk_mul]
  have key : wY_produce_54 post (nI l) v2 v3 v4 (nI pc) g_start g_sets g_states g_conflicts g_ready g_length g_tokens g_stuck g_scanned g_value g_place b_term b_size b_skipped b_left b_right b_width b_op b_constant b_rank b_grouping b_bTerm b_bSize b_bSkipped b_bLeft b_bWidth b_bOp b_bConstant b_follow b_ends b_first b_last b_none b_set b_leads b_apart b_state b_to b_look b_begins b_nullable b_act b_built b_leadTo b_text b_fits b_token b_stack b_worth := by
    unfold wY_produce_54 wY_produce_153
    rw [show 3 * nI pc + 1 = nI (3 * pc + 1) from f 1, show 3 * nI pc + 2 = nI (3 * pc + 2) from f 2, f0]
    rw [nI_clamp (by omega), nI_clamp (by omega), nI_clamp (by omega), nI_clamp (by omega)]
    refine pk_eq pc 8 (fun e => absurd e e8) (fun _ => nm_r (nI_1 pc) ⟨vp_in_nI (by omega) (by omega), nm_e ⟨vp_in_nI (by omega) (by omega), nm_e ⟨vp_in_nI (by omega) (by omega), nm_e ⟨vp_in_nI (by omega) (by omega), nm_e ?_⟩⟩⟩⟩)
    have i9 : vp_in (nI pc) 9 := vp_in_nI (by omega) (by omega)
    have i8 : vp_in (nI pc) 8 := vp_in_nI (by omega) (by omega)
    rcases hw with ⟨a, rfl⟩ | ⟨a, b, rfl⟩ | ⟨a, b, c, rfl⟩ | ⟨a, b, c, rfl⟩
    · exact br_f (by rw [a]; decide) ⟨i9, nm_e ⟨i8, nm_e ⟨i8, nm_e hp⟩⟩⟩
    · exact br_t (sn_lt h2 a) (br_f (by rw [b]; decide) ⟨i9, nm_e ⟨i8, nm_e ⟨i8, nm_e hp⟩⟩⟩)
    · exact br_t (sn_lt h2 a) (br_t (sn_lt h3 b) (br_f (by rw [c]; decide) ⟨i9, nm_e ⟨i8, nm_e ⟨i8, nm_e hp⟩⟩⟩))
    · exact br_t (sn_lt h2 a) (br_t (sn_lt h3 b) (br_t (sn_lt h4 c) ⟨i9, nm_e ⟨i8, nm_e ⟨i8, nm_e hp⟩⟩⟩))
  have key2 : wY_produce_45 post (nI l) v2 v3 v4 (nI pc) g_start g_sets g_states g_conflicts g_ready g_length g_tokens g_stuck g_scanned g_value g_place b_term b_size b_skipped b_left b_right b_width b_op b_constant b_rank b_grouping b_bTerm b_bSize b_bSkipped b_bLeft b_bWidth b_bOp b_bConstant b_follow b_ends b_first b_last b_none b_set b_leads b_apart b_state b_to b_look b_begins b_nullable b_act b_built b_leadTo b_text b_fits b_token b_stack b_worth := by
    by_cases a : v3 = -1
    · exact br_f (by rw [a]; decide) (br_f (by rw [s2.resolve_left (fun z => z a)]; decide) key)
    · exact br_t (sn_lt h3 a) key
  unfold wpY_produce
  dsimp only
  refine br_f (nI_nlt (b := 10) hl.1 (by omega)) (br_f (nI_nlt (a := 12) (by omega) (by omega)) ?_)
  refine ys_t h2 (br_f (by decide) (ys_t h3 (br_f (by decide) (ys_t h4 (br_f (by decide) ?_)))))
  by_cases a : v2 = -1
  · exact br_f (by rw [a]; decide) (br_f (by rw [s1.resolve_left (fun z => z a)]; decide) key2)
  · exact br_t (sn_lt h2 a) key2
end
theorem pr_g {g le ri wi op co : Nat → Int32} {pc : Nat} {L W : Nat → Nat} {R : Nat → Nat → Nat} (hV : gr_V pc L W R) (hX : gr_X g L W R) (hY : gr_Y le ri wi L W R) (hO : gr_O g op co) (h8 : pc ≠ 8)
    {l w : Nat} (hl : 10 ≤ l ∧ l < 13) (hw : w ≤ 3) {v2 v3 v4 : Int32} (rr : Nat → Nat) (hs : ∀ k, k < w → sym (rr k)) (a0 : 0 < w → v2 = nI (rr 0)) (a1 : 1 < w → v3 = nI (rr 1)) (a2 : 2 < w → v4 = nI (rr 2)) :
    rg (nI (pc + 1)) (nI (pc + 1)) (upd (upd (upd (upd (upd (upd (upd g (7 * pc) (nI l)) (7 * pc + 1) (nI w)) (7 * pc + 2) v2) (7 * pc + 3) v3) (7 * pc + 4) v4) (7 * pc + 5) 0) (7 * pc + 6) 0)
      (upd le pc (nI l)) (upd (upd (upd ri (3 * pc) v2) (3 * pc + 1) v3) (3 * pc + 2) v4) (upd wi pc (nI w)) (upd op pc 0) (upd co pc 0) := by
  obtain ⟨hpc, hV2, hV3, hV4, hV5, hV6⟩ := hV
  refine ⟨pc + 1, fun q => if q = pc then l else L q, fun q => if q = pc then w else W q, fun q k => if q = pc then rr k else R q k, rfl, rfl, ⟨by omega, ?_, ?_, ?_, ?_, ?_⟩, ?_, ?_, ?_⟩
  · intro q
    by_cases e : q = pc
    · simp only [e, if_pos]; exact ⟨by omega, hw, hs⟩
    · simp only [e, if_false]; exact hV2 q
  · intro q hq
    by_cases e : q = pc
    · simp only [e, if_pos]; exact hl
    · simp only [e, if_false]; exact hV3 q (by omega)
  · simp only [show ¬ 8 = pc by omega, if_false]; exact hV4
  · simp only [show ¬ 8 = pc by omega, if_false]; exact hV5
  · simp only [show ¬ 8 = pc by omega, if_false]; exact hV6
  · intro q hq
    by_cases e : q = pc
    · subst e
      simp only [if_pos]
      refine ⟨?_, ?_, fun k hk => ?_⟩
      · rw [pk_un (by omega), pk_un (by omega), pk_un (by omega), pk_un (by omega), pk_un (by omega), pk_un (by omega), pk_us]
      · rw [pk_un (by omega), pk_un (by omega), pk_un (by omega), pk_un (by omega), pk_un (by omega), pk_us]
      · have hk3 : k = 0 ∨ k = 1 ∨ k = 2 := by omega
        rw [pk_un (by omega), pk_un (by omega)]
        rcases hk3 with rfl | rfl | rfl
        · rw [pk_un (by omega), pk_un (by omega), Nat.add_zero, pk_us]; exact a0 hk
        · rw [pk_un (by omega), pk_us]; exact a1 hk
        · rw [pk_us]; exact a2 hk
    · simp only [e, if_false]
      obtain ⟨h1, h2, h3⟩ := hX q hq
      have hw3 := (hV2 q).2.1
      refine ⟨?_, ?_, fun k hk => ?_⟩
      · rw [pk_un (by omega), pk_un (by omega), pk_un (by omega), pk_un (by omega), pk_un (by omega), pk_un (by omega), pk_un (by omega)]; exact h1
      · rw [pk_un (by omega), pk_un (by omega), pk_un (by omega), pk_un (by omega), pk_un (by omega), pk_un (by omega), pk_un (by omega)]; exact h2
      · rw [pk_un (by omega), pk_un (by omega), pk_un (by omega), pk_un (by omega), pk_un (by omega), pk_un (by omega), pk_un (by omega)]; exact h3 k hk
  · intro q hq
    by_cases e : q = pc
    · subst e
      simp only [if_pos]
      refine ⟨pk_us, pk_us, fun k hk => ?_⟩
      have hk3 : k = 0 ∨ k = 1 ∨ k = 2 := by omega
      rcases hk3 with rfl | rfl | rfl
      · rw [pk_un (by omega), pk_un (by omega), Nat.add_zero, pk_us]; exact a0 hk
      · rw [pk_un (by omega), pk_us]; exact a1 hk
      · rw [pk_us]; exact a2 hk
    · simp only [e, if_false]
      obtain ⟨h1, h2, h3⟩ := hY q hq
      have hw3 := (hV2 q).2.1
      refine ⟨by rw [pk_un e]; exact h1, by rw [pk_un e]; exact h2, fun k hk => ?_⟩
      rw [pk_un (by omega), pk_un (by omega), pk_un (by omega)]; exact h3 k hk
  · intro q hq
    obtain ⟨h1, h2, h3⟩ := hO q hq
    by_cases e : q = pc
    · subst e
      rw [pk_us, pk_un (by omega), pk_us, pk_us, pk_us]
      exact ⟨rfl, rfl, 0, by omega, rfl⟩
    · refine ⟨?_, ?_, ?_⟩
      · rw [pk_un (by omega), pk_un (by omega), pk_un (by omega), pk_un (by omega), pk_un (by omega), pk_un (by omega), pk_un (by omega), pk_un e]; exact h1
      · rw [pk_un (by omega), pk_un (by omega), pk_un (by omega), pk_un (by omega), pk_un (by omega), pk_un (by omega), pk_un (by omega), pk_un e]; exact h2
      · rw [pk_un e]; exact h3
theorem i_vc_produce {k : Nat} {u : SX} {v : SY} (I : i_Rel k u v) (hk : k + 5 ≤ 2560) (v1 : Int32) (v2 : Int32) (v3 : Int32) (v4 : Int32) : wpX_produce (fun r u' => wpY_produce (fun r' v' => r' = r ∧ i_Rel (k + 5) u' v') v v1 v2 v3 v4) u v1 v2 v3 v4 := by
  obtain ⟨f_productionCount, f_textLength, f_anythingBuilt, f_tokenCount, f_parseValue, f_parsePlace, a_ruleTerms, a_ruleLengths, a_skips, a_grammar, a_ranks, a_groupings, a_text, a_heads, a_tails, a_empties, a_placeLetters, a_followers, a_ruleEnds, a_sets, a_steps, a_classes, a_finerClasses, a_states, a_moves, a_begins, a_lookaheads, a_builtCounts, a_builtSteps, a_builtMatches, a_builtSkips, a_builtGrammar, a_builtMoves, a_builtActions, a_tokenRules, a_tokenBegins, a_tokenEnds, a_stackStates, a_stackValues⟩ := u
  obtain ⟨g_productions, g_start, g_sets, g_states, g_conflicts, g_ready, g_length, g_tokens, g_stuck, g_scanned, g_value, g_place, b_term, b_size, b_skipped, b_left, b_right, b_width, b_op, b_constant, b_rank, b_grouping, b_bTerm, b_bSize, b_bSkipped, b_bLeft, b_bWidth, b_bOp, b_bConstant, b_follow, b_ends, b_first, b_last, b_none, b_set, b_leads, b_apart, b_state, b_to, b_look, b_begins, b_nullable, b_act, b_built, b_leadTo, b_text, b_fits, b_token, b_stack, b_worth⟩ := v
  have I0 := I
  obtain ⟨rfl, rfl, rfl, rfl, rfl, rfl, rfl, rfl, hr, hg, ht, hb⟩ := I
  obtain ⟨pc, L, W, R, rfl, rfl, hV, hX, hY, hO⟩ := hg
  by_cases h : pr_c pc v1 v2 v3 v4
  · have key : ∃ w, w ≤ 3 ∧ ((v2 = -1 ∧ w = 0) ∨ (v2 ≠ -1 ∧ v3 = -1 ∧ w = 1) ∨ (v2 ≠ -1 ∧ v3 ≠ -1 ∧ v4 = -1 ∧ w = 2) ∨ (v2 ≠ -1 ∧ v3 ≠ -1 ∧ v4 ≠ -1 ∧ w = 3)) ∧ ∃ rr : Nat → Nat, (∀ k, k < w → sym (rr k)) ∧ (0 < w → v2 = nI (rr 0)) ∧ (1 < w → v3 = nI (rr 1)) ∧ (2 < w → v4 = nI (rr 2)) := by
      obtain ⟨-, -, h2, h3, h4, -, -⟩ := h
      rcases h2 with h2 | ⟨j2, k2, e2⟩
      · exact ⟨0, by omega, Or.inl ⟨h2, rfl⟩, fun _ => 0, fun k hk => absurd hk (by omega), fun z => absurd z (by omega), fun z => absurd z (by omega), fun z => absurd z (by omega)⟩
      have n2 : v2 ≠ -1 := by rw [e2]; exact zn_ne1 (by rcases k2 with z | z <;> omega)
      rcases h3 with h3 | ⟨j3, k3, e3⟩
      · exact ⟨1, by omega, Or.inr (Or.inl ⟨n2, h3, rfl⟩), fun _ => j2, fun k hk => k2, fun z => e2, fun z => absurd z (by omega), fun z => absurd z (by omega)⟩
      have n3 : v3 ≠ -1 := by rw [e3]; exact zn_ne1 (by rcases k3 with z | z <;> omega)
      rcases h4 with h4 | ⟨j4, k4, e4⟩
      · refine ⟨2, by omega, Or.inr (Or.inr (Or.inl ⟨n2, n3, h4, rfl⟩)), fun k => if k = 0 then j2 else j3, fun k hk => ?_, fun z => e2, fun z => e3, fun z => absurd z (by omega)⟩
        dsimp only; split
        · exact k2
        · exact k3
      have n4 : v4 ≠ -1 := by rw [e4]; exact zn_ne1 (by rcases k4 with z | z <;> omega)
      refine ⟨3, by omega, Or.inr (Or.inr (Or.inr ⟨n2, n3, n4, rfl⟩)), fun k => if k = 0 then j2 else if k = 1 then j3 else j4, fun k hk => ?_, fun z => e2, fun z => e3, fun z => e4⟩
      dsimp only; split
      · exact k2
      · split
        · exact k3
        · exact k4
    obtain ⟨w, hw3, hw, rr, q0, q1, q2, q3⟩ := key
    refine xp_t h w hw hV.1 (yp_t h w hw hV.1 ⟨rfl, rl_mk rfl rfl rfl rfl rfl rfl rfl rfl hr ?_ ht hb⟩)
    obtain ⟨h8, ⟨l, hl, rfl⟩, -⟩ := h
    exact pr_g hV hX hY hO h8 hl hw3 rr q0 q1 q2 q3
  · exact xp_f hV.1 h (yp_f hV.1 h ⟨rfl, I0⟩)
end
section
/-! the component's cut -/
theorem mu_c {st ma : Nat → Int32} {tl : Nat → Nat} {c : Nat} (hc : c ≤ 61)
    (hst : ∀ s l, s < c → l < 4 → st (4 * s + l) = -1 ∨ ∃ q, q < c ∧ st (4 * s + l) = nI q) (hma : ∀ s, s < c → ma s = -1 ∨ ∃ r, r < 4 ∧ ma s = nI r) (htl : ∀ i, tl i < 4) :
    ∀ d i s e m, s < c → (m = -1 ∨ ∃ r, r < 4 ∧ m = nI r) → e ≤ i → ((mu st ma tl d i s (e, m)).2 = m ∧ (mu st ma tl d i s (e, m)).1 = e) ∨ (∃ r, r < 4 ∧ (mu st ma tl d i s (e, m)).2 = nI r ∧ i < (mu st ma tl d i s (e, m)).1 ∧ (mu st ma tl d i s (e, m)).1 ≤ i + d) := by
  intro d
  induction d with
  | zero => intro i s e m hs hm he; exact Or.inl ⟨rfl, rfl⟩
  | succ d ih =>
    intro i s e m hs hm he
    unfold mu
    rcases hst s (tl i) hs (htl i) with h | ⟨q, hq, h⟩
    · rw [if_pos h]; exact Or.inl ⟨rfl, rfl⟩
    · rw [if_neg (by rw [h]; exact zn_ne1 (by omega)), h, nI_clamp (by omega)]
      rcases hma q hq with h2 | ⟨r, hr, h2⟩
      · rw [if_pos h2]
        rcases ih (i + 1) q e m hq hm (by omega) with h3 | ⟨r, h3, h4, h5, h6⟩
        · exact Or.inl h3
        · exact Or.inr ⟨r, h3, h4, by omega, by omega⟩
      · rw [if_neg (by rw [h2]; exact zn_ne1 (by omega)), h2]
        rcases ih (i + 1) q (i + 1) (nI r) hq (Or.inr ⟨r, hr, rfl⟩) (by omega) with h3 | ⟨r, h3, h4, h5, h6⟩
        · exact Or.inr ⟨r, hr, h3.1, by rw [h3.2]; omega, by rw [h3.2]; omega⟩
        · exact Or.inr ⟨r, h3, h4, by omega, by omega⟩
theorem mx_c {st ma : Nat → Int32} {tl : Nat → Nat} {c : Nat} (hc0 : 0 < c) (hc : c ≤ 61)
    (hst : ∀ s l, s < c → l < 4 → st (4 * s + l) = -1 ∨ ∃ q, q < c ∧ st (4 * s + l) = nI q) (hma : ∀ s, s < c → ma s = -1 ∨ ∃ r, r < 4 ∧ ma s = nI r) (htl : ∀ i, tl i < 4) {n a : Nat} (h : a ≤ n) :
    (mx st ma tl n a).2 = -1 ∨ (∃ r, r < 4 ∧ (mx st ma tl n a).2 = nI r ∧ a < (mx st ma tl n a).1 ∧ (mx st ma tl n a).1 ≤ n) := by
  rcases mu_c hc hst hma htl (n - a) a 0 a (-1) hc0 (Or.inl rfl) (by omega) with h1 | ⟨r, h1, h2, h3, h4⟩
  · exact Or.inl h1.1
  · refine Or.inr ⟨r, h1, h2, h3, ?_⟩
    have : (mx st ma tl n a).1 ≤ a + (n - a) := h4
    omega
section
variable {f_productionCount f_textLength f_anythingBuilt f_tokenCount f_parseValue f_parsePlace : Int32} {a_ruleTerms a_ruleLengths a_skips a_grammar a_ranks a_groupings a_text a_heads a_tails a_empties a_placeLetters a_followers a_ruleEnds : Nat → Int32} {a_sets : Nat → Int64} {a_steps a_classes a_finerClasses : Nat → Int32} {a_states : Nat → Int64} {a_moves a_begins a_lookaheads a_builtCounts a_builtSteps a_builtMatches a_builtSkips a_builtGrammar a_builtMoves a_builtActions a_tokenRules a_tokenBegins a_tokenEnds a_stackStates a_stackValues : Nat → Int32} {post : Int32 → SX → Prop}
theorem xi_34 {J9 : Int32 → Int32 → Int32 → Int32 → Int32 → Int32 → Int32 → Int32 → (Nat → Int32) → (Nat → Int32) → (Nat → Int32) → (Nat → Int32) → (Nat → Int32) → (Nat → Int32) → (Nat → Int32) → (Nat → Int32) → (Nat → Int32) → (Nat → Int32) → (Nat → Int32) → (Nat → Int32) → (Nat → Int32) → (Nat → Int64) → (Nat → Int32) → (Nat → Int32) → (Nat → Int32) → (Nat → Int64) → (Nat → Int32) → (Nat → Int32) → (Nat → Int32) → (Nat → Int32) → (Nat → Int32) → (Nat → Int32) → (Nat → Int32) → (Nat → Int32) → (Nat → Int32) → (Nat → Int32) → (Nat → Int32) → (Nat → Int32) → (Nat → Int32) → (Nat → Int32) → (Nat → Int32) → Prop}
    {x1 x2 : Int32} {n c : Nat} (hn : n ≤ 20) (hc : c ≤ 61)
    (hst : ∀ s l, s < c → l < 4 → a_builtSteps (4 * s + l) = -1 ∨ ∃ q, q < c ∧ a_builtSteps (4 * s + l) = nI q) (hma : ∀ s, s < c → a_builtMatches s = -1 ∨ ∃ r, r < 4 ∧ a_builtMatches s = nI r) (htx : ∀ k, ∃ l, l < 4 ∧ a_text k = nI l) :
    ∀ d i s e m, i + d = n → s < c → wX_cutText_109 post J9 x1 x2 (nI (mu a_builtSteps a_builtMatches (nv a_text) d i s (e, m)).1) (mu a_builtSteps a_builtMatches (nv a_text) d i s (e, m)).2 f_productionCount (nI n) f_anythingBuilt f_tokenCount f_parseValue f_parsePlace a_ruleTerms a_ruleLengths a_skips a_grammar a_ranks a_groupings a_text a_heads a_tails a_empties a_placeLetters a_followers a_ruleEnds a_sets a_steps a_classes a_finerClasses a_states a_moves a_begins a_lookaheads a_builtCounts a_builtSteps a_builtMatches a_builtSkips a_builtGrammar a_builtMoves a_builtActions a_tokenRules a_tokenBegins a_tokenEnds a_stackStates a_stackValues →
      wX_cutText_34 post J9 x1 x2 f_productionCount (nI n) f_anythingBuilt f_tokenCount f_parseValue f_parsePlace a_ruleTerms a_ruleLengths a_skips a_grammar a_ranks a_groupings a_text a_heads a_tails a_empties a_placeLetters a_followers a_ruleEnds a_sets a_steps a_classes a_finerClasses a_states a_moves a_begins a_lookaheads a_builtCounts a_builtSteps a_builtMatches a_builtSkips a_builtGrammar a_builtMoves a_builtActions a_tokenRules a_tokenBegins a_tokenEnds a_stackStates a_stackValues (d + 1) (nI e) m (nI s) (nI i) := by
  intro d
  induction d with
  | zero =>
    intro i s e m hi hs H
    exact pk_le 20 i (fun _ => H) (fun _ => pk_le n i (fun _ => H) (fun z => absurd z (by omega)))
  | succ d ih =>
    intro i s e m hi hs H
    obtain ⟨l, hl, el⟩ := htx i
    have etl : nv a_text i = l := by unfold nv; rw [el]; exact nI_clamp (by omega)
    unfold mu at H
    rw [etl] at H
    have ei : nI s * 4 + nI l = nI (4 * s + l) := by rw [show (4 : Int32) = nI 4 from rfl, pk_mul, nI_add]; congr 1; omega
    refine pk_le 20 i (fun z => absurd z (by omega)) (fun _ => pk_le n i (fun z => absurd z (by omega)) (fun _ => ⟨vp_in_nI (by omega) (by omega), ?_⟩))
    rw [nI_clamp (show i < 2 ^ 31 by omega), el, ei, nI_clamp (show 4 * s + l < 2 ^ 31 by omega)]
    refine ⟨vp_in_nI (by omega) (by omega), nm_e ?_⟩
    rcases hst s l hs hl with h | ⟨q, hq, h⟩
    · rw [if_pos h] at H
      exact br_t h H
    · rw [if_neg (by rw [h]; exact zn_ne1 (by omega)), h, nI_clamp (by omega)] at H
      rw [h, nI_clamp (by omega)]
      have iq : vp_in (nI q) 61 := vp_in_nI (by omega) (by omega)
      refine br_f (zn_ne1 (by omega)) ⟨iq, ?_⟩
      by_cases h2 : a_builtMatches q = -1
      · rw [if_pos h2] at H
        exact br_t h2 (nm_r (nI_1 i) (ih (i + 1) q e m (by omega) hq H))
      · rw [if_neg h2] at H
        refine br_f h2 ⟨iq, nm_e (nm_r (nI_1 i) (nm_r (nI_1 i) (ih (i + 1) q (i + 1) _ (by omega) hq H)))⟩
theorem xi_9 {n c : Nat} (hn : n ≤ 20) (hc0 : 0 < c) (hc : c ≤ 61)
    (hst : ∀ s l, s < c → l < 4 → a_builtSteps (4 * s + l) = -1 ∨ ∃ q, q < c ∧ a_builtSteps (4 * s + l) = nI q) (hma : ∀ s, s < c → a_builtMatches s = -1 ∨ ∃ r, r < 4 ∧ a_builtMatches s = nI r) (htx : ∀ k, ∃ l, l < 4 ∧ a_text k = nI l) :
    ∀ d a cn p b e (z : Nat × Nat × (Nat → Int32) × (Nat → Int32) × (Nat → Int32)), d ≤ 20 → a ≤ n → cn + d ≤ 20 → ct a_builtSteps a_builtMatches a_builtSkips (nv a_text) n d (a, cn, p, b, e) = z →
      post (nI z.1) (f_productionCount, nI n, f_anythingBuilt, nI z.2.1, f_parseValue, f_parsePlace, a_ruleTerms, a_ruleLengths, a_skips, a_grammar, a_ranks, a_groupings, a_text, a_heads, a_tails, a_empties, a_placeLetters, a_followers, a_ruleEnds, a_sets, a_steps, a_classes, a_finerClasses, a_states, a_moves, a_begins, a_lookaheads, a_builtCounts, a_builtSteps, a_builtMatches, a_builtSkips, a_builtGrammar, a_builtMoves, a_builtActions, z.2.2.1, z.2.2.2.1, z.2.2.2.2, a_stackStates, a_stackValues) →
      wX_cutText_9 post (d + 1) (nI a) (nI (20 - d)) f_productionCount (nI n) f_anythingBuilt (nI cn) f_parseValue f_parsePlace a_ruleTerms a_ruleLengths a_skips a_grammar a_ranks a_groupings a_text a_heads a_tails a_empties a_placeLetters a_followers a_ruleEnds a_sets a_steps a_classes a_finerClasses a_states a_moves a_begins a_lookaheads a_builtCounts a_builtSteps a_builtMatches a_builtSkips a_builtGrammar a_builtMoves a_builtActions p b e a_stackStates a_stackValues := by
  have htl : ∀ i, nv a_text i < 4 := fun i => by
    obtain ⟨l, hl, el⟩ := htx i
    unfold nv; rw [el, nI_clamp (by omega)]; exact hl
  intro d
  induction d with
  | zero =>
    intro a cn p b e z hd ha hcn hz H
    subst hz
    exact pk_le 20 20 (fun _ => H) (fun z => absurd z (by omega))
  | succ d ih =>
    intro a cn p b e z hd ha hcn hz H
    refine pk_le 20 (20 - (d + 1)) (fun z => absurd z (by omega)) (fun _ => pk_le n a (fun h => ?_) (fun h => ?_))
    · unfold ct at hz
      rw [if_pos h] at hz
      subst hz; exact H
    · refine ⟨n - a + 1, xi_34 hn hc hst hma htx (n - a) a 0 a (-1) (by omega) hc0 ?_⟩
      unfold ct at hz
      rw [if_neg (by omega)] at hz
      have hmx := mx_c hc0 hc hst hma htl (n := n) (a := a) ha
      change wX_cutText_109 _ _ _ _ (nI (mx a_builtSteps a_builtMatches (nv a_text) n a).1) (mx a_builtSteps a_builtMatches (nv a_text) n a).2 f_productionCount (nI n) f_anythingBuilt (nI cn) f_parseValue f_parsePlace a_ruleTerms a_ruleLengths a_skips a_grammar a_ranks a_groupings a_text a_heads a_tails a_empties a_placeLetters a_followers a_ruleEnds a_sets a_steps a_classes a_finerClasses a_states a_moves a_begins a_lookaheads a_builtCounts a_builtSteps a_builtMatches a_builtSkips a_builtGrammar a_builtMoves a_builtActions p b e a_stackStates a_stackValues
      generalize mx a_builtSteps a_builtMatches (nv a_text) n a = r at hz hmx
      have e20 : nI (20 - (d + 1)) + 1 = nI (20 - d) := by rw [nI_1]; congr 1; omega
      rcases hmx with h2 | ⟨q, hq, h2, h3, h4⟩
      · rw [if_pos h2] at hz
        subst hz
        exact br_t h2 H
      · have hne : ¬ r.2 = -1 := by rw [h2]; exact zn_ne1 (by omega)
        rw [if_neg hne, h2, nI_clamp (by omega)] at hz
        rw [h2]
        rw [h2] at hne
        refine br_f hne ⟨vp_in_nI hq (by omega), ?_⟩
        rw [nI_clamp (show q < 2 ^ 31 by omega)]
        by_cases h5 : a_builtSkips q = 0
        · rw [if_pos h5] at hz
          refine br_t h5 ?_
          have ic : vp_in (nI cn) 20 := vp_in_nI (by omega) (by omega)
          refine ⟨ic, nm_e ⟨ic, nm_e ⟨ic, nm_e (nm_r (nI_1 cn) (nm_r e20 ?_))⟩⟩⟩
          rw [nI_clamp (show cn < 2 ^ 31 by omega)]
          exact ih r.1 (cn + 1) _ _ _ z (by omega) h4 (by omega) hz H
        · rw [if_neg h5] at hz
          exact br_f h5 (nm_r e20 (ih r.1 cn _ _ _ z (by omega) h4 (by omega) hz H))
theorem xc_cut {n : Nat} {bT bS : Nat → Int32} (hn : n ≤ 20) (hs : sc_ok a_builtSteps a_builtMatches bT bS) (htx : ∀ k, ∃ l, l < 4 ∧ a_text k = nI l)
    {z : Nat × Nat × (Nat → Int32) × (Nat → Int32) × (Nat → Int32)} (hz : ct a_builtSteps a_builtMatches a_builtSkips (nv a_text) n 20 (0, 0, a_tokenRules, a_tokenBegins, a_tokenEnds) = z)
    (H : post (nI z.1) (f_productionCount, nI n, f_anythingBuilt, nI z.2.1, f_parseValue, f_parsePlace, a_ruleTerms, a_ruleLengths, a_skips, a_grammar, a_ranks, a_groupings, a_text, a_heads, a_tails, a_empties, a_placeLetters, a_followers, a_ruleEnds, a_sets, a_steps, a_classes, a_finerClasses, a_states, a_moves, a_begins, a_lookaheads, a_builtCounts, a_builtSteps, a_builtMatches, a_builtSkips, a_builtGrammar, a_builtMoves, a_builtActions, z.2.2.1, z.2.2.2.1, z.2.2.2.2, a_stackStates, a_stackValues)) : wpX_cutText post (f_productionCount, nI n, f_anythingBuilt, f_tokenCount, f_parseValue, f_parsePlace, a_ruleTerms, a_ruleLengths, a_skips, a_grammar, a_ranks, a_groupings, a_text, a_heads, a_tails, a_empties, a_placeLetters, a_followers, a_ruleEnds, a_sets, a_steps, a_classes, a_finerClasses, a_states, a_moves, a_begins, a_lookaheads, a_builtCounts, a_builtSteps, a_builtMatches, a_builtSkips, a_builtGrammar, a_builtMoves, a_builtActions, a_tokenRules, a_tokenBegins, a_tokenEnds, a_stackStates, a_stackValues) := by
  obtain ⟨-, -, c, hc0, hc, hst, hma, -⟩ := hs
  exact ⟨21, xi_9 hn hc0 hc hst hma htx 20 0 0 _ _ _ z (by omega) (by omega) (by omega) hz H⟩
end
/-- the cut from other stale arrays: the same tokens -/
theorem ct_eq {st ma sk : Nat → Int32} {tl : Nat → Nat} {n : Nat} : ∀ d a c p b e p' b' e', (∀ k, k < c → p k = p' k ∧ b k = b' k ∧ e k = e' k) →
    (ct st ma sk tl n d (a, c, p, b, e)).1 = (ct st ma sk tl n d (a, c, p', b', e')).1 ∧ (ct st ma sk tl n d (a, c, p, b, e)).2.1 = (ct st ma sk tl n d (a, c, p', b', e')).2.1 ∧
    ∀ k, k < (ct st ma sk tl n d (a, c, p, b, e)).2.1 → (ct st ma sk tl n d (a, c, p, b, e)).2.2.1 k = (ct st ma sk tl n d (a, c, p', b', e')).2.2.1 k ∧ (ct st ma sk tl n d (a, c, p, b, e)).2.2.2.1 k = (ct st ma sk tl n d (a, c, p', b', e')).2.2.2.1 k ∧ (ct st ma sk tl n d (a, c, p, b, e)).2.2.2.2 k = (ct st ma sk tl n d (a, c, p', b', e')).2.2.2.2 k := by
  intro d
  induction d with
  | zero => intro a c p b e p' b' e' h; exact ⟨rfl, rfl, h⟩
  | succ d ih =>
    intro a c p b e p' b' e' h
    unfold ct
    by_cases h1 : n ≤ a
    · rw [if_pos h1, if_pos h1]; exact ⟨rfl, rfl, h⟩
    rw [if_neg h1, if_neg h1]
    by_cases h2 : (mx st ma tl n a).2 = -1
    · rw [if_pos h2, if_pos h2]; exact ⟨rfl, rfl, h⟩
    rw [if_neg h2, if_neg h2]
    by_cases h3 : sk (mx st ma tl n a).2.toNatClampNeg = 0
    · rw [if_pos h3, if_pos h3]
      apply ih
      intro k hk
      by_cases e1 : k = c
      · subst e1; simp only [pk_us]; exact ⟨trivial, trivial, trivial⟩
      · rw [pk_un e1, pk_un e1, pk_un e1, pk_un e1, pk_un e1, pk_un e1]; exact h k (by omega)
    · rw [if_neg h3, if_neg h3]
      exact ih _ _ _ _ _ _ _ _ h
/-- of the cut: places and tokens are within -/
theorem ct_in {st ma sk : Nat → Int32} {tl : Nat → Nat} {n c : Nat} (hc0 : 0 < c) (hc : c ≤ 61)
    (hst : ∀ s l, s < c → l < 4 → st (4 * s + l) = -1 ∨ ∃ q, q < c ∧ st (4 * s + l) = nI q) (hma : ∀ s, s < c → ma s = -1 ∨ ∃ r, r < 4 ∧ ma s = nI r) (htl : ∀ i, tl i < 4) :
    ∀ d a cn p b e, a ≤ n → (∀ k, k < cn → (∃ r, r < 4 ∧ p k = nI r) ∧ ∃ i j, i ≤ j ∧ j ≤ n ∧ b k = nI i ∧ e k = nI j) →
    (ct st ma sk tl n d (a, cn, p, b, e)).1 ≤ n ∧ (ct st ma sk tl n d (a, cn, p, b, e)).2.1 ≤ cn + d ∧
    ∀ k, k < (ct st ma sk tl n d (a, cn, p, b, e)).2.1 → (∃ r, r < 4 ∧ (ct st ma sk tl n d (a, cn, p, b, e)).2.2.1 k = nI r) ∧ ∃ i j, i ≤ j ∧ j ≤ n ∧ (ct st ma sk tl n d (a, cn, p, b, e)).2.2.2.1 k = nI i ∧ (ct st ma sk tl n d (a, cn, p, b, e)).2.2.2.2 k = nI j := by
  intro d
  induction d with
  | zero => intro a cn p b e ha h; exact ⟨ha, Nat.le_refl _, h⟩
  | succ d ih =>
    intro a cn p b e ha h
    unfold ct
    by_cases h1 : n ≤ a
    · rw [if_pos h1]; exact ⟨ha, by show cn ≤ cn + (d + 1); omega, h⟩
    rw [if_neg h1]
    rcases mx_c hc0 hc hst hma htl (n := n) (a := a) ha with h2 | ⟨q, hq, h2, h3, h4⟩
    · rw [if_pos h2]; exact ⟨ha, by show cn ≤ cn + (d + 1); omega, h⟩
    rw [if_neg (by rw [h2]; exact zn_ne1 (by omega))]
    generalize mx st ma tl n a = r at h2 h3 h4
    by_cases h5 : sk r.2.toNatClampNeg = 0
    · rw [if_pos h5]
      obtain ⟨i1, i2, i3⟩ := ih r.1 (cn + 1) (upd p cn r.2) (upd b cn (nI a)) (upd e cn (nI r.1)) h4 (fun k hk => by
        by_cases e1 : k = cn
        · subst e1; rw [pk_us, pk_us, pk_us]; exact ⟨⟨q, hq, h2⟩, a, r.1, by omega, h4, rfl, rfl⟩
        · rw [pk_un e1, pk_un e1, pk_un e1]; exact h k (by omega))
      exact ⟨i1, by omega, i3⟩
    · rw [if_neg h5]
      obtain ⟨i1, i2, i3⟩ := ih r.1 cn p b e h4 h
      exact ⟨i1, by omega, i3⟩
end
section
/-! the reference's table of parts that fit -/
def ft (f : Nat → Int32) (e i j : Nat) : Prop := ¬ f (441 * e + 21 * i + j) = 0
def bv (P : Prop) (x : Int32) : Prop := (P ∧ x = 1) ∨ (¬ P ∧ x = 0)
theorem bv_n {P : Prop} {x : Int32} (h : bv P x) : vp_nar .boolean x = x := by
  rcases h with ⟨-, rfl⟩ | ⟨-, rfl⟩ <;> rfl
theorem bv_i {P : Prop} {x : Int32} (h : bv P x) : ¬ x = 0 ↔ P := by
  rcases h with ⟨p, rfl⟩ | ⟨p, rfl⟩
  · exact ⟨fun _ => p, fun _ => by decide⟩
  · exact ⟨fun z => absurd rfl z, fun z => absurd z p⟩
theorem bv_c {P Q : Prop} {x : Int32} (e : P ↔ Q) (h : bv P x) : bv Q x := by
  rcases h with ⟨p, rfl⟩ | ⟨p, rfl⟩
  · exact Or.inl ⟨e.mp p, rfl⟩
  · exact Or.inr ⟨fun q => p (e.mpr q), rfl⟩
theorem yx (e i j : Nat) : 441 * nI e + 21 * nI i + nI j = nI (441 * e + 21 * i + j) := by
  rw [show (441 : Int32) = nI 441 from rfl, show (21 : Int32) = nI 21 from rfl, pk_mul, pk_mul, nI_add, nI_add]
/-- what a term makes of one cell -/
def cv (tl : Nat → Nat) (f : Nat → Int32) (t e i j : Nat) : Prop :=
  if t < 5 then j = i + 1 ∧ (t = 4 ∨ tl i = t)
  else if t = 5 then ∃ m, i ≤ m ∧ m ≤ j ∧ ft f e i m ∧ ft f (e + 1) m j
  else if t = 6 then ft f e i j ∨ ft f (e + 1) i j
  else if t = 9 then i = j ∨ ft f e i j
  else ∃ m, i + 1 ≤ m ∧ m ≤ j ∧ ft f e i m ∧ (m = j ∨ ft f 7 m j)
section
variable {g_productions : Int32} {g_start : Int64} {g_sets g_states g_conflicts g_ready g_length g_tokens g_stuck g_scanned g_value g_place : Int32} {b_term b_size b_skipped b_left b_right b_width b_op b_constant b_rank b_grouping b_bTerm b_bSize b_bSkipped b_bLeft b_bWidth b_bOp b_bConstant : Nat → Int32} {b_follow b_ends b_first b_last : Nat → Int64} {b_none : Nat → Int32} {b_set : Nat → Int64} {b_leads b_apart : Nat → Int32} {b_state : Nat → Int64} {b_to b_look b_begins b_nullable b_act b_built b_leadTo b_text b_fits b_token b_stack b_worth : Nat → Int32} {post : Int32 → Prop}
theorem yp_ {e i j : Nat} (h : post (nI (441 * e + 21 * i + j))) : wpY_part post (g_productions, g_start, g_sets, g_states, g_conflicts, g_ready, g_length, g_tokens, g_stuck, g_scanned, g_value, g_place, b_term, b_size, b_skipped, b_left, b_right, b_width, b_op, b_constant, b_rank, b_grouping, b_bTerm, b_bSize, b_bSkipped, b_bLeft, b_bWidth, b_bOp, b_bConstant, b_follow, b_ends, b_first, b_last, b_none, b_set, b_leads, b_apart, b_state, b_to, b_look, b_begins, b_nullable, b_act, b_built, b_leadTo, b_text, b_fits, b_token, b_stack, b_worth) (nI e) (nI i) (nI j) := by
  show post _
  rw [yx]; exact h
theorem ya_5 {e i j : Nat} (he : e < 8) (hi : i ≤ 20) (hj : j ≤ 20) : ∀ d m, m + d = j + 1 →
    ((∃ q, m ≤ q ∧ q ≤ j ∧ ft b_fits e i q ∧ (q = j ∨ ft b_fits 7 q j)) → post 1) → ((¬ ∃ q, m ≤ q ∧ q ≤ j ∧ ft b_fits e i q ∧ (q = j ∨ ft b_fits 7 q j)) → post 0) →
    wY_again_5 post (nI e) (nI i) (nI j) g_productions g_start g_sets g_states g_conflicts g_ready g_length g_tokens g_stuck g_scanned g_value g_place b_term b_size b_skipped b_left b_right b_width b_op b_constant b_rank b_grouping b_bTerm b_bSize b_bSkipped b_bLeft b_bWidth b_bOp b_bConstant b_follow b_ends b_first b_last b_none b_set b_leads b_apart b_state b_to b_look b_begins b_nullable b_act b_built b_leadTo b_text b_fits b_token b_stack b_worth (d + 1) (nI m) := by
  intro d
  induction d with
  | zero =>
    intro m hm h1 h0
    exact pk_lt j m (fun _ => h0 fun ⟨q, a, b, _⟩ => by omega) (fun z => absurd z (by omega))
  | succ d ih =>
    intro m hm h1 h0
    refine pk_lt j m (fun z => absurd z (by omega)) (fun _ => yp_ ⟨vp_in_nI (by omega) (by omega), ?_⟩)
    rw [nI_clamp (by omega)]
    have nx : ¬ (ft b_fits e i m ∧ (m = j ∨ ft b_fits 7 m j)) → wY_again_5 post (nI e) (nI i) (nI j) g_productions g_start g_sets g_states g_conflicts g_ready g_length g_tokens g_stuck g_scanned g_value g_place b_term b_size b_skipped b_left b_right b_width b_op b_constant b_rank b_grouping b_bTerm b_bSize b_bSkipped b_bLeft b_bWidth b_bOp b_bConstant b_follow b_ends b_first b_last b_none b_set b_leads b_apart b_state b_to b_look b_begins b_nullable b_act b_built b_leadTo b_text b_fits b_token b_stack b_worth (d + 1) (nI (m + 1)) := by
      intro hno
      refine ih (m + 1) (by omega) (fun ⟨q, a, b, c⟩ => h1 ⟨q, by omega, b, c⟩) (fun z => h0 fun ⟨q, a, b, c⟩ => z ⟨q, ?_, b, c⟩)
      rcases Nat.lt_or_ge m q with y | y
      · exact y
      · have : q = m := by omega
        subst this; exact absurd c hno
    by_cases a : b_fits (441 * e + 21 * i + m) = 0
    · exact br_t a (nm_r (nI_1 m) (nx fun z => z.1 a))
    · refine br_f a (pk_eq m j (fun e1 => h1 ⟨m, by omega, by omega, a, Or.inl e1⟩) (fun e1 => ?_))
      refine yp_ (e := 7) ⟨vp_in_nI (by omega) (by omega), ?_⟩
      rw [nI_clamp (by omega)]
      by_cases b : b_fits (441 * 7 + 21 * m + j) = 0
      · exact br_t b (nm_r (nI_1 m) (nx fun z => z.2.elim e1 (fun y => y b)))
      · exact br_f b (h1 ⟨m, by omega, by omega, a, Or.inr b⟩)
theorem ya_ {e i j : Nat} (he : e < 8) (hi : i ≤ 20) (hj : j ≤ 20) (hij : i ≤ j)
    (h : ∀ x, bv (∃ q, i + 1 ≤ q ∧ q ≤ j ∧ ft b_fits e i q ∧ (q = j ∨ ft b_fits 7 q j)) x → post x) : wpY_again post (g_productions, g_start, g_sets, g_states, g_conflicts, g_ready, g_length, g_tokens, g_stuck, g_scanned, g_value, g_place, b_term, b_size, b_skipped, b_left, b_right, b_width, b_op, b_constant, b_rank, b_grouping, b_bTerm, b_bSize, b_bSkipped, b_bLeft, b_bWidth, b_bOp, b_bConstant, b_follow, b_ends, b_first, b_last, b_none, b_set, b_leads, b_apart, b_state, b_to, b_look, b_begins, b_nullable, b_act, b_built, b_leadTo, b_text, b_fits, b_token, b_stack, b_worth) (nI e) (nI i) (nI j) :=
  nm_r (nI_1 i) ⟨j - i + 1, ya_5 he hi hj (j - i) (i + 1) (by omega) (fun z => h 1 (Or.inl ⟨z, rfl⟩)) (fun z => h 0 (Or.inr ⟨z, rfl⟩))⟩
theorem yo_3 {e i j : Nat} (he : e < 7) (hi : i ≤ 20) (hj : j ≤ 20) : ∀ d m, m + d = j + 1 →
    ((∃ q, m ≤ q ∧ q ≤ j ∧ ft b_fits e i q ∧ ft b_fits (e + 1) q j) → post 1) → ((¬ ∃ q, m ≤ q ∧ q ≤ j ∧ ft b_fits e i q ∧ ft b_fits (e + 1) q j) → post 0) →
    wY_both_3 post (nI e) (nI i) (nI j) g_productions g_start g_sets g_states g_conflicts g_ready g_length g_tokens g_stuck g_scanned g_value g_place b_term b_size b_skipped b_left b_right b_width b_op b_constant b_rank b_grouping b_bTerm b_bSize b_bSkipped b_bLeft b_bWidth b_bOp b_bConstant b_follow b_ends b_first b_last b_none b_set b_leads b_apart b_state b_to b_look b_begins b_nullable b_act b_built b_leadTo b_text b_fits b_token b_stack b_worth (d + 1) (nI m) := by
  intro d
  induction d with
  | zero =>
    intro m hm h1 h0
    exact pk_lt j m (fun _ => h0 fun ⟨q, a, b, _⟩ => by omega) (fun z => absurd z (by omega))
  | succ d ih =>
    intro m hm h1 h0
    refine pk_lt j m (fun z => absurd z (by omega)) (fun _ => yp_ ⟨vp_in_nI (by omega) (by omega), ?_⟩)
    rw [nI_clamp (by omega)]
    have nx : ¬ (ft b_fits e i m ∧ ft b_fits (e + 1) m j) → wY_both_3 post (nI e) (nI i) (nI j) g_productions g_start g_sets g_states g_conflicts g_ready g_length g_tokens g_stuck g_scanned g_value g_place b_term b_size b_skipped b_left b_right b_width b_op b_constant b_rank b_grouping b_bTerm b_bSize b_bSkipped b_bLeft b_bWidth b_bOp b_bConstant b_follow b_ends b_first b_last b_none b_set b_leads b_apart b_state b_to b_look b_begins b_nullable b_act b_built b_leadTo b_text b_fits b_token b_stack b_worth (d + 1) (nI (m + 1)) := by
      intro hno
      refine ih (m + 1) (by omega) (fun ⟨q, a, b, c⟩ => h1 ⟨q, by omega, b, c⟩) (fun z => h0 fun ⟨q, a, b, c⟩ => z ⟨q, ?_, b, c⟩)
      rcases Nat.lt_or_ge m q with y | y
      · exact y
      · have : q = m := by omega
        subst this; exact absurd c hno
    by_cases a : b_fits (441 * e + 21 * i + m) = 0
    · exact br_t a (nm_r (nI_1 m) (nx fun z => z.1 a))
    · refine br_f a ?_
      rw [nI_1 e]
      refine yp_ ⟨vp_in_nI (by omega) (by omega), ?_⟩
      rw [nI_clamp (by omega)]
      by_cases b : b_fits (441 * (e + 1) + 21 * m + j) = 0
      · exact br_t b (nm_r (nI_1 m) (nx fun z => z.2 b))
      · exact br_f b (h1 ⟨m, by omega, by omega, a, b⟩)
theorem yo_ {e i j : Nat} (he : e < 7) (hi : i ≤ 20) (hj : j ≤ 20) (hij : i ≤ j)
    (h : ∀ x, bv (∃ q, i ≤ q ∧ q ≤ j ∧ ft b_fits e i q ∧ ft b_fits (e + 1) q j) x → post x) : wpY_both post (g_productions, g_start, g_sets, g_states, g_conflicts, g_ready, g_length, g_tokens, g_stuck, g_scanned, g_value, g_place, b_term, b_size, b_skipped, b_left, b_right, b_width, b_op, b_constant, b_rank, b_grouping, b_bTerm, b_bSize, b_bSkipped, b_bLeft, b_bWidth, b_bOp, b_bConstant, b_follow, b_ends, b_first, b_last, b_none, b_set, b_leads, b_apart, b_state, b_to, b_look, b_begins, b_nullable, b_act, b_built, b_leadTo, b_text, b_fits, b_token, b_stack, b_worth) (nI e) (nI i) (nI j) :=
  ⟨j + 1 - i + 1, yo_3 he hi hj (j + 1 - i) i (by omega) (fun z => h 1 (Or.inl ⟨z, rfl⟩)) (fun z => h 0 (Or.inr ⟨z, rfl⟩))⟩
end
section
variable {g_productions : Int32} {g_start : Int64} {g_sets g_states g_conflicts g_ready g_length g_tokens g_stuck g_scanned g_value g_place : Int32} {b_term b_size b_skipped b_left b_right b_width b_op b_constant b_rank b_grouping b_bTerm b_bSize b_bSkipped b_bLeft b_bWidth b_bOp b_bConstant : Nat → Int32} {b_follow b_ends b_first b_last : Nat → Int64} {b_none : Nat → Int32} {b_set : Nat → Int64} {b_leads b_apart : Nat → Int32} {b_state : Nat → Int64} {b_to b_look b_begins b_nullable b_act b_built b_leadTo b_text b_fits b_token b_stack b_worth : Nat → Int32} {post : SY → Prop}
/-- the copy behind a THEN -/
theorem yk_235 {e i n : Nat} {f0 : Nat → Int32} (he : e < 7) (hi : i ≤ n) (hn : n ≤ 20) (V : Nat → Prop) (hV : ∀ j, i ≤ j → j ≤ n → bv (V j) (f0 (441 * 7 + 21 * i + j)))
    (H : ∀ f : Nat → Int32, (∀ c, (∀ j, i ≤ j → j ≤ n → c ≠ 441 * e + 21 * i + j) → f c = f0 c) → (∀ j, i ≤ j → j ≤ n → bv (V j) (f (441 * e + 21 * i + j))) → post (g_productions, g_start, g_sets, g_states, g_conflicts, g_ready, nI n, g_tokens, g_stuck, g_scanned, g_value, g_place, b_term, b_size, b_skipped, b_left, b_right, b_width, b_op, b_constant, b_rank, b_grouping, b_bTerm, b_bSize, b_bSkipped, b_bLeft, b_bWidth, b_bOp, b_bConstant, b_follow, b_ends, b_first, b_last, b_none, b_set, b_leads, b_apart, b_state, b_to, b_look, b_begins, b_nullable, b_act, b_built, b_leadTo, b_text, f, b_token, b_stack, b_worth)) :
    ∀ d j f, j + d = n + 1 → i ≤ j → (∀ c, (∀ q, i ≤ q → q < j → c ≠ 441 * e + 21 * i + q) → f c = f0 c) → (∀ q, i ≤ q → q < j → bv (V q) (f (441 * e + 21 * i + q))) →
    wY_carryOut_235 post (nI e) (nI i) g_productions g_start g_sets g_states g_conflicts g_ready (nI n) g_tokens g_stuck g_scanned g_value g_place (d + 1) (nI j) b_term b_size b_skipped b_left b_right b_width b_op b_constant b_rank b_grouping b_bTerm b_bSize b_bSkipped b_bLeft b_bWidth b_bOp b_bConstant b_follow b_ends b_first b_last b_none b_set b_leads b_apart b_state b_to b_look b_begins b_nullable b_act b_built b_leadTo b_text f b_token b_stack b_worth := by
  intro d
  induction d with
  | zero =>
    intro j f hj hij h1 h2
    refine pk_lt n j (fun _ => H f (fun c hc => h1 c fun q a b => hc q a (by omega)) (fun q a b => h2 q a (by omega))) (fun z => absurd z (by omega))
  | succ d ih =>
    intro j f hj hij h1 h2
    refine pk_lt n j (fun z => absurd z (by omega)) (fun _ => yp_ (yp_ (e := 7) ⟨vp_in_nI (by omega) (by omega), vp_in_nI (by omega) (by omega), ?_⟩))
    rw [nI_clamp (by omega), nI_clamp (by omega)]
    have e7 : f (441 * 7 + 21 * i + j) = f0 (441 * 7 + 21 * i + j) := h1 _ (fun q a b => by omega)
    have hb := hV j hij (by omega)
    refine nm_r (e' := upd f (441 * e + 21 * i + j) (f0 (441 * 7 + 21 * i + j))) (by rw [e7, bv_n hb]) (nm_r (nI_1 j) (ih (j + 1) _ (by omega) (by omega) ?_ ?_))
    · intro c hc
      rw [pk_un (hc j hij (by omega))]
      exact h1 c fun q a b => hc q a (by omega)
    · intro q a b
      by_cases eq : q = j
      · subst eq; rw [pk_us]; exact hb
      · rw [pk_un (by omega)]; exact h2 q a (by omega)
/-- what carryOut leaves -/
def cs (tl : Nat → Nat) (t e i n : Nat) (f f' : Nat → Int32) : Prop :=
  (∀ c, (∀ j, i ≤ j → j ≤ n → c ≠ 441 * (if t = 7 ∨ t = 8 then 7 else e) + 21 * i + j) → (t = 5 → ∀ j, i ≤ j → j ≤ n → c ≠ 441 * 7 + 21 * i + j) → f' c = f c) ∧
  ∀ j, i ≤ j → j ≤ n → (¬ f' (441 * (if t = 7 ∨ t = 8 then 7 else e) + 21 * i + j) = 0 ↔ cv tl f t e i j)
theorem cv_c {tl : Nat → Nat} {f f0 : Nat → Int32} {t e i j n l : Nat} (ht : t < 10) (hl : l = if t = 5 ∨ t = 7 ∨ t = 8 then 7 else e) (he : e < 6) (hn : n ≤ 20) (hij : i ≤ j) (hj : j ≤ n)
    (h : ∀ c, (∀ q, i ≤ q → q < j → c ≠ 441 * l + 21 * i + q) → f c = f0 c) : cv tl f t e i j ↔ cv tl f0 t e i j := by
  have g : ∀ k p q, k ≤ 7 → p ≤ 20 → q ≤ 20 → (k ≠ l ∨ p ≠ i ∨ j ≤ q) → (ft f k p q ↔ ft f0 k p q) := by
    intro k p q hk hp hq hne
    unfold ft
    rw [h _ (fun r a b => by omega)]
  unfold cv
  by_cases c0 : t < 5
  · rw [if_pos c0, if_pos c0]
  rw [if_neg c0, if_neg c0]
  by_cases c5 : t = 5
  · rw [if_pos c5, if_pos c5]
    rw [if_pos (Or.inl c5)] at hl
    refine ⟨fun ⟨m, a, b, c, d⟩ => ⟨m, a, b, ?_, ?_⟩, fun ⟨m, a, b, c, d⟩ => ⟨m, a, b, ?_, ?_⟩⟩
    · exact (g _ _ _ (by omega) (by omega) (by omega) (by omega)).mp c
    · exact (g _ _ _ (by omega) (by omega) (by omega) (by omega)).mp d
    · exact (g _ _ _ (by omega) (by omega) (by omega) (by omega)).mpr c
    · exact (g _ _ _ (by omega) (by omega) (by omega) (by omega)).mpr d
  rw [if_neg c5, if_neg c5]
  by_cases c6 : t = 6
  · rw [if_pos c6, if_pos c6, g _ _ _ (by omega) (by omega) (by omega) (by omega), g _ _ _ (by omega) (by omega) (by omega) (by omega)]
  rw [if_neg c6, if_neg c6]
  by_cases c9 : t = 9
  · rw [if_pos c9, if_pos c9, g _ _ _ (by omega) (by omega) (by omega) (by omega)]
  rw [if_neg c9, if_neg c9]
  rw [if_pos (by omega)] at hl
  refine ⟨fun ⟨m, a, b, c, d⟩ => ⟨m, a, b, ?_, ?_⟩, fun ⟨m, a, b, c, d⟩ => ⟨m, a, b, ?_, ?_⟩⟩
  · exact (g _ _ _ (by omega) (by omega) (by omega) (by omega)).mp c
  · exact d.imp id (g _ _ _ (by omega) (by omega) (by omega) (by omega)).mp
  · exact (g _ _ _ (by omega) (by omega) (by omega) (by omega)).mpr c
  · exact d.imp id (g _ _ _ (by omega) (by omega) (by omega) (by omega)).mpr
theorem yc_3 {t e i n l : Nat} {f0 : Nat → Int32} (ht : t < 10) (hl : l = if t = 5 ∨ t = 7 ∨ t = 8 then 7 else e) (he : e < 6) (hi : i ≤ n) (hn : n ≤ 20) (htx : ∀ k, ∃ l, l < 4 ∧ b_text k = nI l)
    (H : ∀ f : Nat → Int32, (∀ c, (∀ j, i ≤ j → j ≤ n → c ≠ 441 * l + 21 * i + j) → f c = f0 c) → (∀ j, i ≤ j → j ≤ n → bv (cv (nv b_text) f0 t e i j) (f (441 * l + 21 * i + j))) →
      ((nI t = 5 → (∃ n235 : Nat, wY_carryOut_235 post (nI e) (nI i) g_productions g_start g_sets g_states g_conflicts g_ready (nI n) g_tokens g_stuck g_scanned g_value g_place n235 (nI i) b_term b_size b_skipped b_left b_right b_width b_op b_constant b_rank b_grouping b_bTerm b_bSize b_bSkipped b_bLeft b_bWidth b_bOp b_bConstant b_follow b_ends b_first b_last b_none b_set b_leads b_apart b_state b_to b_look b_begins b_nullable b_act b_built b_leadTo b_text f b_token b_stack b_worth)) ∧ (¬ nI t = 5 → post (g_productions, g_start, g_sets, g_states, g_conflicts, g_ready, nI n, g_tokens, g_stuck, g_scanned, g_value, g_place, b_term, b_size, b_skipped, b_left, b_right, b_width, b_op, b_constant, b_rank, b_grouping, b_bTerm, b_bSize, b_bSkipped, b_bLeft, b_bWidth, b_bOp, b_bConstant, b_follow, b_ends, b_first, b_last, b_none, b_set, b_leads, b_apart, b_state, b_to, b_look, b_begins, b_nullable, b_act, b_built, b_leadTo, b_text, f, b_token, b_stack, b_worth)))) :
    ∀ d j f, j + d = n + 1 → i ≤ j → (∀ c, (∀ q, i ≤ q → q < j → c ≠ 441 * l + 21 * i + q) → f c = f0 c) → (∀ q, i ≤ q → q < j → bv (cv (nv b_text) f0 t e i q) (f (441 * l + 21 * i + q))) →
    wY_carryOut_3 post (nI t) (nI e) (nI i) g_productions g_start g_sets g_states g_conflicts g_ready (nI n) g_tokens g_stuck g_scanned g_value g_place (d + 1) (nI j) b_term b_size b_skipped b_left b_right b_width b_op b_constant b_rank b_grouping b_bTerm b_bSize b_bSkipped b_bLeft b_bWidth b_bOp b_bConstant b_follow b_ends b_first b_last b_none b_set b_leads b_apart b_state b_to b_look b_begins b_nullable b_act b_built b_leadTo b_text f b_token b_stack b_worth := by
  intro d
  induction d with
  | zero =>
    intro j f hj hij h1 h2
    exact pk_lt n j (fun _ => H f (fun c hc => h1 c fun q a b => hc q a (by omega)) (fun q a b => h2 q a (by omega))) (fun z => absurd z (by omega))
  | succ d ih =>
    intro j f hj hij h1 h2
    have hc := cv_c (tl := nv b_text) (n := n) ht hl he hn hij (by omega) h1
    have step : ∀ z, bv (cv (nv b_text) f t e i j) z → wY_carryOut_3 post (nI t) (nI e) (nI i) g_productions g_start g_sets g_states g_conflicts g_ready (nI n) g_tokens g_stuck g_scanned g_value g_place (d + 1) (nI (j + 1)) b_term b_size b_skipped b_left b_right b_width b_op b_constant b_rank b_grouping b_bTerm b_bSize b_bSkipped b_bLeft b_bWidth b_bOp b_bConstant b_follow b_ends b_first b_last b_none b_set b_leads b_apart b_state b_to b_look b_begins b_nullable b_act b_built b_leadTo b_text (upd f (441 * l + 21 * i + j) z) b_token b_stack b_worth := by
      intro z hz
      refine ih (j + 1) _ (by omega) (by omega) ?_ ?_
      · intro c hc
        rw [pk_un (hc j hij (by omega))]
        exact h1 c fun q a b => hc q a (by omega)
      · intro q a b
        by_cases eq : q = j
        · subst eq; rw [pk_us]; exact bv_c hc hz
        · rw [pk_un (by omega)]; exact h2 q a (by omega)
    have fin : ∀ z, bv (cv (nv b_text) f t e i j) z → t ≠ 7 → t ≠ 8 → wY_carryOut_180 post (wY_carryOut_3 post (nI t) (nI e) (nI i) g_productions g_start g_sets g_states g_conflicts g_ready (nI n) g_tokens g_stuck g_scanned g_value g_place (d + 1)) (nI t) (nI e) (nI i) (nI j) z g_productions g_start g_sets g_states g_conflicts g_ready (nI n) g_tokens g_stuck g_scanned g_value g_place b_term b_size b_skipped b_left b_right b_width b_op b_constant b_rank b_grouping b_bTerm b_bSize b_bSkipped b_bLeft b_bWidth b_bOp b_bConstant b_follow b_ends b_first b_last b_none b_set b_leads b_apart b_state b_to b_look b_begins b_nullable b_act b_built b_leadTo b_text f b_token b_stack b_worth := by
      intro z hz h7 h8
      refine pk_eq t 5 (fun c5 => ?_) (fun c5 => ?_)
      · rw [if_pos (Or.inl c5)] at hl
        subst hl
        refine yp_ (e := 7) ⟨vp_in_nI (by omega) (by omega), ?_⟩
        rw [nI_clamp (by omega)]
        exact nm_r (by rw [bv_n hz]) (nm_r (nI_1 j) (step z hz))
      · rw [if_neg (by omega)] at hl
        subst hl
        refine yp_ ⟨vp_in_nI (by omega) (by omega), ?_⟩
        rw [nI_clamp (by omega)]
        exact nm_r (by rw [bv_n hz]) (nm_r (nI_1 j) (step z hz))
    have rep : t = 7 ∨ t = 8 → wY_carryOut_24 post (wY_carryOut_3 post (nI t) (nI e) (nI i) g_productions g_start g_sets g_states g_conflicts g_ready (nI n) g_tokens g_stuck g_scanned g_value g_place (d + 1)) (nI t) (nI e) (nI i) (nI j) g_productions g_start g_sets g_states g_conflicts g_ready (nI n) g_tokens g_stuck g_scanned g_value g_place b_term b_size b_skipped b_left b_right b_width b_op b_constant b_rank b_grouping b_bTerm b_bSize b_bSkipped b_bLeft b_bWidth b_bOp b_bConstant b_follow b_ends b_first b_last b_none b_set b_leads b_apart b_state b_to b_look b_begins b_nullable b_act b_built b_leadTo b_text f b_token b_stack b_worth := by
      intro c78
      rw [if_pos (Or.inr c78)] at hl
      subst hl
      refine ya_ (by omega) (by omega) (by omega) hij (fun x hx => yp_ (e := 7) ⟨vp_in_nI (by omega) (by omega), ?_⟩)
      rw [nI_clamp (by omega)]
      refine nm_r (by rw [bv_n hx]) (nm_r (nI_1 j) (step x (bv_c ?_ hx)))
      unfold cv
      rw [if_neg (by omega), if_neg (by omega), if_neg (by omega), if_neg (by omega)]
    refine pk_lt n j (fun z => absurd z (by omega)) (fun _ => pk_eq t 7 (fun c7 => rep (Or.inl c7)) (fun c7 => pk_eq t 8 (fun c8 => rep (Or.inr c8)) (fun c8 => ?_)))
    refine pk_le 5 t (fun c5 => pk_eq t 5 (fun e5 => ?_) (fun n5 => pk_eq t 6 (fun e6 => ?_) (fun n6 => ?_))) (fun c5 => ?_)
    · refine yo_ (by omega) (by omega) (by omega) hij (fun x hx => fin x (bv_c ?_ hx) c7 c8)
      unfold cv
      rw [if_neg (by omega), if_pos e5]
    · have e0 : cv (nv b_text) f t e i j ↔ (ft f e i j ∨ ft f (e + 1) i j) := by
        unfold cv; rw [if_neg (by omega), if_neg (by omega), if_pos e6]
      refine yp_ ⟨vp_in_nI (by omega) (by omega), ?_⟩
      rw [nI_clamp (by omega)]
      by_cases a : f (441 * e + 21 * i + j) = 0
      · refine br_t a ?_
        rw [nI_1 e]
        refine yp_ ⟨vp_in_nI (by omega) (by omega), ?_⟩
        rw [nI_clamp (by omega)]
        by_cases b : f (441 * (e + 1) + 21 * i + j) = 0
        · exact br_t b (fin 0 (Or.inr ⟨fun z => (e0.mp z).elim (fun y => y a) (fun y => y b), rfl⟩) c7 c8)
        · exact br_f b (fin 1 (Or.inl ⟨e0.mpr (Or.inr b), rfl⟩) c7 c8)
      · exact br_f a (fin 1 (Or.inl ⟨e0.mpr (Or.inl a), rfl⟩) c7 c8)
    · have e0 : cv (nv b_text) f t e i j ↔ (i = j ∨ ft f e i j) := by
        unfold cv; rw [if_neg (by omega), if_neg (by omega), if_neg (by omega), if_pos (by omega)]
      refine pk_eq i j (fun e1 => fin 1 (Or.inl ⟨e0.mpr (Or.inl e1), rfl⟩) c7 c8) (fun n1 => ?_)
      refine yp_ ⟨vp_in_nI (by omega) (by omega), ?_⟩
      rw [nI_clamp (by omega)]
      by_cases a : f (441 * e + 21 * i + j) = 0
      · exact br_t a (fin 0 (Or.inr ⟨fun z => (e0.mp z).elim n1 (fun y => y a), rfl⟩) c7 c8)
      · exact br_f a (fin 1 (Or.inl ⟨e0.mpr (Or.inr a), rfl⟩) c7 c8)
    · have e0 : cv (nv b_text) f t e i j ↔ (j = i + 1 ∧ (t = 4 ∨ nv b_text i = t)) := by
        unfold cv; rw [if_pos c5]
      rw [nI_1 i]
      refine pk_eq j (i + 1) (fun e1 => pk_eq t 4 (fun e4 => fin 1 (Or.inl ⟨e0.mpr ⟨e1, Or.inl e4⟩, rfl⟩) c7 c8) (fun n4 => ⟨vp_in_nI (by omega) (by omega), ?_⟩)) (fun n1 => fin 0 (Or.inr ⟨fun z => n1 (e0.mp z).1, rfl⟩) c7 c8)
      obtain ⟨q, hq, eq⟩ := htx i
      have etl : nv b_text i = q := by unfold nv; rw [eq]; exact nI_clamp (by omega)
      rw [nI_clamp (show i < 2 ^ 31 by omega), eq]
      refine pk_eq q t (fun e2 => fin 1 (Or.inl ⟨e0.mpr ⟨e1, Or.inr (by omega)⟩, rfl⟩) c7 c8) (fun n2 => fin 0 (Or.inr ⟨fun z => (e0.mp z).2.elim n4 (fun y => n2 (by omega)), rfl⟩) c7 c8)
theorem yc_ {t e i n : Nat} (ht : t < 10) (he : e < 6) (hi : i ≤ n) (hn : n ≤ 20) (htx : ∀ k, ∃ l, l < 4 ∧ b_text k = nI l)
    (H : ∀ f : Nat → Int32, cs (nv b_text) t e i n b_fits f → post (g_productions, g_start, g_sets, g_states, g_conflicts, g_ready, nI n, g_tokens, g_stuck, g_scanned, g_value, g_place, b_term, b_size, b_skipped, b_left, b_right, b_width, b_op, b_constant, b_rank, b_grouping, b_bTerm, b_bSize, b_bSkipped, b_bLeft, b_bWidth, b_bOp, b_bConstant, b_follow, b_ends, b_first, b_last, b_none, b_set, b_leads, b_apart, b_state, b_to, b_look, b_begins, b_nullable, b_act, b_built, b_leadTo, b_text, f, b_token, b_stack, b_worth)) : wpY_carryOut post (g_productions, g_start, g_sets, g_states, g_conflicts, g_ready, nI n, g_tokens, g_stuck, g_scanned, g_value, g_place, b_term, b_size, b_skipped, b_left, b_right, b_width, b_op, b_constant, b_rank, b_grouping, b_bTerm, b_bSize, b_bSkipped, b_bLeft, b_bWidth, b_bOp, b_bConstant, b_follow, b_ends, b_first, b_last, b_none, b_set, b_leads, b_apart, b_state, b_to, b_look, b_begins, b_nullable, b_act, b_built, b_leadTo, b_text, b_fits, b_token, b_stack, b_worth) (nI t) (nI e) (nI i) := by
  refine ⟨n + 1 - i + 1, yc_3 (f0 := b_fits) (l := if t = 5 ∨ t = 7 ∨ t = 8 then 7 else e) ht rfl he hi hn htx (fun f h1 h2 => ?_) (n + 1 - i) i b_fits (by omega) (by omega) (fun c _ => rfl) (fun q a b => absurd b (by omega))⟩
  refine pk_eq t 5 (fun c5 => ?_) (fun n5 => ?_)
  · rw [if_pos (Or.inl c5)] at h1 h2
    refine ⟨n + 1 - i + 1, yk_235 (f0 := f) (by omega) hi hn (fun j => cv (nv b_text) b_fits t e i j) h2 (fun f' g1 g2 => H f' ⟨fun c k1 k2 => ?_, fun j a b => ?_⟩) (n + 1 - i) i f (by omega) (by omega) (fun c _ => rfl) (fun q a b => absurd b (by omega))⟩
    · rw [if_neg (by omega)] at k1
      rw [g1 c k1]; exact h1 c (k2 c5)
    · rw [if_neg (by omega)]; exact bv_i (g2 j a b)
  · have e1 : (if t = 5 ∨ t = 7 ∨ t = 8 then 7 else e) = (if t = 7 ∨ t = 8 then 7 else e) := by
      by_cases c : t = 7 ∨ t = 8
      · rw [if_pos c, if_pos (Or.inr c)]
      · rw [if_neg c, if_neg (by omega)]
    rw [e1] at h1 h2
    exact H f ⟨fun c k1 _ => h1 c k1, fun j a b => bv_i (h2 j a b)⟩
end
end
section
/-! the reference's longest match of one rule -/
theorem pl_un {A : Nat → Nat → Prop} {i j : Nat} : pl A i j ↔ ∃ m, i < m ∧ m ≤ j ∧ A i m ∧ (m = j ∨ pl A m j) := by
  constructor
  · rintro ⟨n, h⟩
    cases n with
    | zero => exact absurd h id
    | succ n =>
      obtain ⟨m, a, b, c, d⟩ := h
      exact ⟨m, a, b, c, d.imp id (fun z => ⟨n, z⟩)⟩
  · rintro ⟨m, a, b, c, d⟩
    rcases d with d | ⟨n, d⟩
    · exact ⟨1, m, a, b, c, Or.inl d⟩
    · exact ⟨n + 1, m, a, b, c, Or.inr d⟩
theorem pl_cg {A B : Nat → Nat → Prop} {a n : Nat} (h : ∀ i j, a ≤ i → i ≤ j → j ≤ n → (A i j → B i j)) : ∀ k i j, a ≤ i → j ≤ n → pl_ A k i j → pl_ B k i j := by
  intro k
  induction k with
  | zero => intro i j _ _ z; exact z
  | succ k ih =>
    rintro i j hi hj ⟨m, x, y, z, w⟩
    exact ⟨m, x, y, h i m hi (by omega) (by omega) z, w.imp id (ih m j (by omega) hj)⟩
theorem pl_cong {A B : Nat → Nat → Prop} {a n : Nat} (h : ∀ i j, a ≤ i → i ≤ j → j ≤ n → (A i j ↔ B i j)) {i j : Nat} (hi : a ≤ i) (hj : j ≤ n) : pl A i j ↔ pl B i j :=
  ⟨fun ⟨k, z⟩ => ⟨k, pl_cg (fun i j x y w => (h i j x y w).mp) k i j hi hj z⟩, fun ⟨k, z⟩ => ⟨k, pl_cg (fun i j x y w => (h i j x y w).mpr) k i j hi hj z⟩⟩
theorem dp_le {tm : Nat → Nat} {b : Nat} : ∀ k, dp tm b k ≤ k
  | 0 => Nat.le_refl _
  | k + 1 => by have := dp_le (tm := tm) (b := b) k; show dp tm b k + 1 - _ ≤ _; omega
theorem tk_2 (t : Nat) : tk t ≤ 2 := by unfold tk; split <;> (try split) <;> omega
theorem dp_dn {tm : Nat → Nat} {b n : Nat} (h : ∀ k, k < n → tk (tm (b + k)) ≤ dp tm b k) : ∀ d k, k + d = n → dp tm b k ≤ dp tm b n + d := by
  intro d
  induction d with
  | zero => intro k hk; have : k = n := by omega
            subst this; omega
  | succ d ih =>
    intro k hk
    have h1 := ih (k + 1) (by omega)
    have h2 := tk_2 (tm (b + k))
    have h3 := h k (by omega)
    have h4 : dp tm b (k + 1) = dp tm b k + 1 - tk (tm (b + k)) := rfl
    omega
theorem dp_4 {tm : Nat → Nat} {b n : Nat} (h : wf_ tm b n) (hn : n ≤ 8) {k : Nat} (hk : k ≤ n) : dp tm b k ≤ 4 := by
  rcases h.2 with h2 | h2
  · have : k = 0 := by omega
    subst this; exact Nat.zero_le _
  · have := dp_dn h.1 (n - k) k (by omega)
    have := dp_le (tm := tm) (b := b) k
    omega
section
variable {g_productions : Int32} {g_start : Int64} {g_sets g_states g_conflicts g_ready g_length g_tokens g_stuck g_scanned g_value g_place : Int32} {b_term b_size b_skipped b_left b_right b_width b_op b_constant b_rank b_grouping b_bTerm b_bSize b_bSkipped b_bLeft b_bWidth b_bOp b_bConstant : Nat → Int32} {b_follow b_ends b_first b_last : Nat → Int64} {b_none : Nat → Int32} {b_set : Nat → Int64} {b_leads b_apart : Nat → Int32} {b_state : Nat → Int64} {b_to b_look b_begins b_nullable b_act b_built b_leadTo b_text b_fits b_token b_stack b_worth : Nat → Int32} {post : Int32 → SY → Prop} {J8 : Int32 → Int32 → Int32 → Int64 → Int32 → Int32 → Int32 → Int32 → Int32 → Int32 → Int32 → Int32 → Int32 → Int32 → (Nat → Int32) → (Nat → Int32) → (Nat → Int32) → (Nat → Int32) → (Nat → Int32) → (Nat → Int32) → (Nat → Int32) → (Nat → Int32) → (Nat → Int32) → (Nat → Int32) → (Nat → Int32) → (Nat → Int32) → (Nat → Int32) → (Nat → Int32) → (Nat → Int32) → (Nat → Int32) → (Nat → Int32) → (Nat → Int64) → (Nat → Int64) → (Nat → Int64) → (Nat → Int64) → (Nat → Int32) → (Nat → Int64) → (Nat → Int32) → (Nat → Int32) → (Nat → Int64) → (Nat → Int32) → (Nat → Int32) → (Nat → Int32) → (Nat → Int32) → (Nat → Int32) → (Nat → Int32) → (Nat → Int32) → (Nat → Int32) → (Nat → Int32) → (Nat → Int32) → (Nat → Int32) → (Nat → Int32) → Prop}
theorem yr_44 {x1 : Int32} {t e a n k : Nat} (ht : t < 10) (he : e < 6) (hn : n ≤ 20) (hk : k < 32) (htx : ∀ k, ∃ l, l < 4 ∧ b_text k = nI l) (ek : b_bTerm k = nI t) (Q : Nat → (Nat → Int32) → Prop)
    (hQ : ∀ q f f', a ≤ q → q ≤ n → Q (q + 1) f → cs (nv b_text) t e q n f f' → Q q f')
    (H78 : t = 7 ∨ t = 8 → ∀ f, Q a f → ∃ n97 : Nat, wY_longest_97 post J8 x1 (nI a) (nI e) (nI k) g_productions g_start g_sets g_states g_conflicts g_ready (nI n) g_tokens g_stuck g_scanned g_value g_place n97 0 b_term b_size b_skipped b_left b_right b_width b_op b_constant b_rank b_grouping b_bTerm b_bSize b_bSkipped b_bLeft b_bWidth b_bOp b_bConstant b_follow b_ends b_first b_last b_none b_set b_leads b_apart b_state b_to b_look b_begins b_nullable b_act b_built b_leadTo b_text f b_token b_stack b_worth)
    (Hno : ¬ (t = 7 ∨ t = 8) → ∀ f, Q a f → J8 (nI (e + 1)) (nI (k + 1)) g_productions g_start g_sets g_states g_conflicts g_ready (nI n) g_tokens g_stuck g_scanned g_value g_place b_term b_size b_skipped b_left b_right b_width b_op b_constant b_rank b_grouping b_bTerm b_bSize b_bSkipped b_bLeft b_bWidth b_bOp b_bConstant b_follow b_ends b_first b_last b_none b_set b_leads b_apart b_state b_to b_look b_begins b_nullable b_act b_built b_leadTo b_text f b_token b_stack b_worth) :
    ∀ d p f, a + d = p → p ≤ n + 1 → Q p f → wY_longest_44 post J8 x1 (nI a) (nI e) (nI k) (d + 1) (nI p + (-1)) g_productions g_start g_sets g_states g_conflicts g_ready (nI n) g_tokens g_stuck g_scanned g_value g_place b_term b_size b_skipped b_left b_right b_width b_op b_constant b_rank b_grouping b_bTerm b_bSize b_bSkipped b_bLeft b_bWidth b_bOp b_bConstant b_follow b_ends b_first b_last b_none b_set b_leads b_apart b_state b_to b_look b_begins b_nullable b_act b_built b_leadTo b_text f b_token b_stack b_worth := by
  intro d
  induction d with
  | zero =>
    intro p f hp hpn hq
    have e1 : a = p := by omega
    subst e1
    have i32 : vp_in (nI k) 32 := vp_in_nI hk (by omega)
    have lt : nI a + (-1) < nI a := by
      cases a with
      | zero => decide
      | succ a => rw [pk_m1]; exact nI_lt (by omega) (by omega)
    refine br_t lt ⟨i32, ?_⟩
    rw [nI_clamp (show k < 2 ^ 31 by omega), ek]
    refine pk_eq t 7 (fun c => H78 (Or.inl c) f hq) (fun c => ⟨i32, pk_eq t 8 (fun c => H78 (Or.inr c) f hq) (fun c2 => nm_r (nI_1 e) (nm_r (nI_1 k) (Hno (fun z => z.elim c c2) f hq)))⟩)
  | succ d ih =>
    intro p f hp hpn hq
    obtain ⟨q, rfl⟩ : ∃ q, p = q + 1 := ⟨p - 1, by omega⟩
    rw [pk_m1]
    refine br_f (nI_nlt (by omega) (by omega)) ⟨vp_in_nI hk (by omega), ?_⟩
    rw [nI_clamp (show k < 2 ^ 31 by omega), ek]
    refine yc_ (b_fits := f) ht he (by omega) hn htx (fun f' h => ?_)
    dsimp only
    exact nm_e (ih q f' (by omega) (by omega) (hQ q f f' (by omega) (by omega) hq h))
theorem y97 {x1 x2 : Int32} {t e n k : Nat} {f0 : Nat → Int32} (ht : t = 7 ∨ t = 8) (he : e < 7) (hk : k < 32) (ek : b_bTerm k = nI t) (V : Nat → Prop)
    (hV : ∀ q, q < 441 → (V q ↔ (t = 7 ∧ (¬ f0 (3087 + q) = 0 ∨ q / 21 = q % 21)) ∨ (t = 8 ∧ (¬ f0 (441 * e + q) = 0 ∨ ¬ f0 (3087 + q) = 0))))
    (H : ∀ f : Nat → Int32, (∀ c, (∀ q, q < 441 → c ≠ 441 * e + q) → f c = f0 c) → (∀ q, q < 441 → (¬ f (441 * e + q) = 0 ↔ V q)) → J8 (nI (e + 1)) (nI (k + 1)) g_productions g_start g_sets g_states g_conflicts g_ready (nI n) g_tokens g_stuck g_scanned g_value g_place b_term b_size b_skipped b_left b_right b_width b_op b_constant b_rank b_grouping b_bTerm b_bSize b_bSkipped b_bLeft b_bWidth b_bOp b_bConstant b_follow b_ends b_first b_last b_none b_set b_leads b_apart b_state b_to b_look b_begins b_nullable b_act b_built b_leadTo b_text f b_token b_stack b_worth) :
    ∀ d q f, q + d = 441 → (∀ c, (∀ p, p < q → c ≠ 441 * e + p) → f c = f0 c) → (∀ p, p < q → (¬ f (441 * e + p) = 0 ↔ V p)) →
    wY_longest_97 post J8 x1 x2 (nI e) (nI k) g_productions g_start g_sets g_states g_conflicts g_ready (nI n) g_tokens g_stuck g_scanned g_value g_place (d + 1) (nI q) b_term b_size b_skipped b_left b_right b_width b_op b_constant b_rank b_grouping b_bTerm b_bSize b_bSkipped b_bLeft b_bWidth b_bOp b_bConstant b_follow b_ends b_first b_last b_none b_set b_leads b_apart b_state b_to b_look b_begins b_nullable b_act b_built b_leadTo b_text f b_token b_stack b_worth := by
  intro d
  induction d with
  | zero =>
    intro q f hq h1 h2
    have : q = 441 := by omega
    subst this
    exact pk_le 441 441 (fun _ => nm_r (nI_1 e) (nm_r (nI_1 k) (H f h1 h2))) (fun z => absurd z (by omega))
  | succ d ih =>
    intro q f hq h1 h2
    have i32 : vp_in (nI k) 32 := vp_in_nI hk (by omega)
    have ei : 441 * nI e + nI q = nI (441 * e + q) := by rw [show (441 : Int32) = nI 441 from rfl, pk_mul, nI_add]
    have f7 : f (3087 + q) = f0 (3087 + q) := h1 _ (fun p hp => by omega)
    have fe : f (441 * e + q) = f0 (441 * e + q) := h1 _ (fun p hp => by omega)
    have step : ∀ z, (¬ z = 0 ↔ V q) → wY_longest_97 post J8 x1 x2 (nI e) (nI k) g_productions g_start g_sets g_states g_conflicts g_ready (nI n) g_tokens g_stuck g_scanned g_value g_place (d + 1) (nI (q + 1)) b_term b_size b_skipped b_left b_right b_width b_op b_constant b_rank b_grouping b_bTerm b_bSize b_bSkipped b_bLeft b_bWidth b_bOp b_bConstant b_follow b_ends b_first b_last b_none b_set b_leads b_apart b_state b_to b_look b_begins b_nullable b_act b_built b_leadTo b_text (upd f (441 * e + q) z) b_token b_stack b_worth := by
      intro z hz
      refine ih (q + 1) _ (by omega) ?_ ?_
      · intro c hc
        rw [pk_un (hc q (by omega))]
        exact h1 c fun p hp => hc p (by omega)
      · intro p hp
        by_cases eq : p = q
        · subst eq; rw [pk_us]; exact hz
        · rw [pk_un (by omega)]; exact h2 p (by omega)
    have w133 : (t = 8 → f0 (441 * e + q) = 0) → wY_longest_133 post J8 (wY_longest_97 post J8 x1 x2 (nI e) (nI k) g_productions g_start g_sets g_states g_conflicts g_ready (nI n) g_tokens g_stuck g_scanned g_value g_place (d + 1)) x1 x2 (nI e) (nI k) (nI q) g_productions g_start g_sets g_states g_conflicts g_ready (nI n) g_tokens g_stuck g_scanned g_value g_place b_term b_size b_skipped b_left b_right b_width b_op b_constant b_rank b_grouping b_bTerm b_bSize b_bSkipped b_bLeft b_bWidth b_bOp b_bConstant b_follow b_ends b_first b_last b_none b_set b_leads b_apart b_state b_to b_look b_begins b_nullable b_act b_built b_leadTo b_text f b_token b_stack b_worth := by
      intro h8
      refine yp_ (e := 7) (i := 0) (j := 0) ?_
      have e7 : nI (441 * 7 + 21 * 0 + 0) + nI q = nI (3087 + q) := by rw [nI_add]
      rw [e7, ei, nI_clamp (by omega), nI_clamp (show 441 * e + q < 2 ^ 31 by omega), f7]
      have ie : vp_in (nI (441 * e + q)) 3528 := vp_in_nI (by omega) (by omega)
      refine ⟨vp_in_nI (by omega) (by omega), ?_⟩
      by_cases a : f0 (3087 + q) = 0
      · refine br_t a ⟨i32, ?_⟩
        rw [nI_clamp (show k < 2 ^ 31 by omega), ek]
        refine pk_eq t 7 (fun c => ⟨by decide, by decide, ?_⟩) (fun c => ⟨ie, nm_e (nm_r (nI_1 q) (step 0 ?_))⟩)
        · rw [show (21 : Int32) = nI 21 from rfl, pk_rem (by omega) (by omega) (by omega), pk_div (by omega) (by omega) (by omega)]
          refine pk_eq (q / 21) (q % 21) (fun e1 => ⟨ie, nm_e (nm_r (nI_1 q) (step 1 ?_))⟩) (fun e1 => ⟨ie, nm_e (nm_r (nI_1 q) (step 0 ?_))⟩)
          · exact ⟨fun _ => (hV q (by omega)).mpr (Or.inl ⟨c, Or.inr e1⟩), fun _ => by decide⟩
          · refine ⟨fun z => absurd rfl z, fun z => ?_⟩
            rcases (hV q (by omega)).mp z with ⟨_, y⟩ | ⟨y, _⟩
            · exact y.elim (fun w => absurd a w) (fun w => absurd w e1)
            · omega
        · refine ⟨fun z => absurd rfl z, fun z => ?_⟩
          rcases (hV q (by omega)).mp z with ⟨y, _⟩ | ⟨c8, y⟩
          · exact absurd y c
          · exact y.elim (fun w => absurd (h8 c8) w) (fun w => absurd a w)
      · refine br_f a ⟨ie, nm_e (nm_r (nI_1 q) (step 1 ?_))⟩
        refine ⟨fun _ => (hV q (by omega)).mpr ?_, fun _ => by decide⟩
        rcases ht with c | c
        · exact Or.inl ⟨c, Or.inl a⟩
        · exact Or.inr ⟨c, Or.inr a⟩
    refine pk_le 441 q (fun z => absurd z (by omega)) (fun _ => ⟨i32, ?_⟩)
    rw [nI_clamp (show k < 2 ^ 31 by omega), ek]
    refine pk_eq t 7 (fun c => w133 (fun z => by omega)) (fun c => ?_)
    rw [ei, nI_clamp (show 441 * e + q < 2 ^ 31 by omega), fe]
    refine ⟨vp_in_nI (by omega) (by omega), ?_⟩
    by_cases a : f0 (441 * e + q) = 0
    · exact br_t a (w133 fun _ => a)
    · refine br_f a (nm_r (nI_1 q) (ih (q + 1) f (by omega) (fun c hc => h1 c fun p hp => hc p (by omega)) (fun p hp => ?_)))
      by_cases eq : p = q
      · subst eq; rw [fe]; exact ⟨fun _ => (hV p (by omega)).mpr (Or.inr ⟨by omega, Or.inl a⟩), fun _ => a⟩
      · exact h2 p (by omega)
/-- one term -/
theorem yt_ {x1 : Int32} {t d e a n k : Nat} (ht : t < 10) (htk : tk t ≤ d) (hde : e = d - tk t) (hd : d ≤ 4) (hn : n ≤ 20) (han : a ≤ n) (hk : k < 32) (htx : ∀ k, ∃ l, l < 4 ∧ b_text k = nI l) (ek : b_bTerm k = nI t)
    {s : Nat → Nat → Nat → Prop} (hs : ∀ ε, ε < d → ∀ i j, a ≤ i → i ≤ j → j ≤ n → (ft b_fits ε i j ↔ s ε i j))
    (H : ∀ f : Nat → Int32, (∀ ε, ε < e + 1 → ∀ i j, a ≤ i → i ≤ j → j ≤ n → (ft f ε i j ↔ sm (nv b_text) t d s ε i j)) → J8 (nI (e + 1)) (nI (k + 1)) g_productions g_start g_sets g_states g_conflicts g_ready (nI n) g_tokens g_stuck g_scanned g_value g_place b_term b_size b_skipped b_left b_right b_width b_op b_constant b_rank b_grouping b_bTerm b_bSize b_bSkipped b_bLeft b_bWidth b_bOp b_bConstant b_follow b_ends b_first b_last b_none b_set b_leads b_apart b_state b_to b_look b_begins b_nullable b_act b_built b_leadTo b_text f b_token b_stack b_worth) :
    ∃ n44 : Nat, wY_longest_44 post J8 x1 (nI a) (nI e) (nI k) n44 (nI n) g_productions g_start g_sets g_states g_conflicts g_ready (nI n) g_tokens g_stuck g_scanned g_value g_place b_term b_size b_skipped b_left b_right b_width b_op b_constant b_rank b_grouping b_bTerm b_bSize b_bSkipped b_bLeft b_bWidth b_bOp b_bConstant b_follow b_ends b_first b_last b_none b_set b_leads b_apart b_state b_to b_look b_begins b_nullable b_act b_built b_leadTo b_text b_fits b_token b_stack b_worth := by
  have en : nI n = nI (n + 1) + (-1) := (pk_m1 n).symm
  by_cases c78 : t = 7 ∨ t = 8
  · have etk : tk t = 1 := by unfold tk; rw [if_neg (by omega), if_neg (by omega)]
    have ed : e = d - 1 := by omega
    refine ⟨n + 1 - a + 1, ?_⟩
    suffices this : wY_longest_44 post J8 x1 (nI a) (nI e) (nI k) (n + 1 - a + 1) (nI (n + 1) + (-1)) g_productions g_start g_sets g_states g_conflicts g_ready (nI n) g_tokens g_stuck g_scanned g_value g_place b_term b_size b_skipped b_left b_right b_width b_op b_constant b_rank b_grouping b_bTerm b_bSize b_bSkipped b_bLeft b_bWidth b_bOp b_bConstant b_follow b_ends b_first b_last b_none b_set b_leads b_apart b_state b_to b_look b_begins b_nullable b_act b_built b_leadTo b_text b_fits b_token b_stack b_worth by
      rw [← en] at this; exact this
    refine yr_44 ht (by omega : e < 6) hn hk htx ek (fun p f => (∀ ε i j, ε < 7 → i ≤ 20 → j ≤ 20 → f (441 * ε + 21 * i + j) = b_fits (441 * ε + 21 * i + j)) ∧ (∀ i j, p ≤ i → i ≤ j → j ≤ n → (ft f 7 i j ↔ pl (fun i j => ft b_fits e i j) i j))) ?_ ?_ (fun z => absurd c78 z) (n + 1 - a) (n + 1) b_fits (by omega) (by omega) ⟨fun _ _ _ _ _ _ => rfl, fun i j x y z => absurd x (by omega)⟩
    · rintro q f f' hq1 hq2 ⟨g1, g2⟩ ⟨c1, c2⟩
      rw [if_pos c78] at c1 c2
      refine ⟨fun ε i j x y z => ?_, fun i j x y z => ?_⟩
      · rw [c1 _ (fun j' _ _ => by omega) (fun w => by omega)]; exact g1 ε i j x y z
      · by_cases ei : i = q
        · subst ei
          refine (c2 j y z).trans ?_
          unfold cv
          rw [if_neg (by omega), if_neg (by omega), if_neg (by omega), if_neg (by omega)]
          rw [pl_un]
          constructor
          · rintro ⟨m, u, v, w, r⟩
            refine ⟨m, by omega, v, ?_, r.imp id (fun y => (g2 m j (by omega) (by omega) z).mp y)⟩
            show ¬ b_fits _ = 0
            rw [← g1 e i m (by omega) (by omega) (by omega)]; exact w
          · rintro ⟨m, u, v, w, r⟩
            refine ⟨m, by omega, v, ?_, r.imp id (fun y => (g2 m j (by omega) (by omega) z).mpr y)⟩
            show ¬ f _ = 0
            rw [g1 e i m (by omega) (by omega) (by omega)]; exact w
        · rw [← g2 i j (by omega) y z]
          unfold ft
          rw [c1 _ (fun j' _ _ => by omega) (fun w => by omega)]
    · rintro - f ⟨g1, g2⟩
      refine ⟨442, y97 (f0 := f) c78 (by omega) hk ek (fun q => (t = 7 ∧ (¬ f (3087 + q) = 0 ∨ q / 21 = q % 21)) ∨ (t = 8 ∧ (¬ f (441 * e + q) = 0 ∨ ¬ f (3087 + q) = 0))) (fun _ _ => Iff.rfl) (fun f' k1 k2 => H f' ?_) 441 0 f (by omega) (fun _ _ => rfl) (fun p hp => absurd hp (by omega))⟩
      intro ε hε i j hi hij hj
      by_cases ee : ε = e
      · subst ee
        have k3 := k2 (21 * i + j) (by omega)
        rw [← Nat.add_assoc] at k3
        refine k3.trans ?_
        have d1 : (21 * i + j) / 21 = i := by omega
        have d2 : (21 * i + j) % 21 = j := by omega
        have f7 : ¬ f (3087 + (21 * i + j)) = 0 ↔ pl (s ε) i j := by
          rw [show 3087 + (21 * i + j) = 441 * 7 + 21 * i + j by omega]
          exact (g2 i j hi hij hj).trans (pl_cong (fun i j x y z => hs ε (by omega) i j x y z) hi hj)
        have fe : ¬ f (441 * ε + 21 * i + j) = 0 ↔ s ε i j := by
          rw [g1 ε i j (by omega) (by omega) (by omega)]; exact hs ε (by omega) i j hi hij hj
        rw [d1, d2, f7, fe]
        unfold sm us
        rcases c78 with c | c
        · rw [if_neg (by omega), if_neg (by omega), if_neg (by omega), if_pos c]
          simp only [c, show ε = d - 1 by omega, if_true]
          simp only [true_and, show ¬ (7 = 8) by decide, false_and, or_false]
          exact or_comm
        · rw [if_neg (by omega), if_neg (by omega), if_neg (by omega), if_neg (by omega), if_pos c]
          simp only [c, show ε = d - 1 by omega, if_true]
          simp only [true_and, show ¬ (8 = 7) by decide, false_and, false_or]
      · have : sm (nv b_text) t d s ε = s ε := by
          unfold sm us
          rw [if_neg (by omega), if_neg (by omega), if_neg (by omega)]
          split
          · exact if_neg (by omega)
          · rw [if_pos (by omega)]; exact if_neg (by omega)
        rw [this, ← hs ε (by omega) i j hi hij hj]
        unfold ft
        rw [k1 _ (fun q hq => by omega), g1 ε i j (by omega) (by omega) (by omega)]
  · refine ⟨n + 1 - a + 1, ?_⟩
    have e5 : (t < 5 → e = d) ∧ (t = 5 ∨ t = 6 → e + 2 = d) ∧ (t = 9 → e + 1 = d) := by
      unfold tk at hde htk
      refine ⟨fun z => ?_, fun z => ?_, fun z => ?_⟩
      · rw [if_pos z] at hde; omega
      · rw [if_neg (by omega), if_pos (by omega)] at hde htk; omega
      · rw [if_neg (by omega), if_neg (by omega)] at hde htk; omega
    suffices this : wY_longest_44 post J8 x1 (nI a) (nI e) (nI k) (n + 1 - a + 1) (nI (n + 1) + (-1)) g_productions g_start g_sets g_states g_conflicts g_ready (nI n) g_tokens g_stuck g_scanned g_value g_place b_term b_size b_skipped b_left b_right b_width b_op b_constant b_rank b_grouping b_bTerm b_bSize b_bSkipped b_bLeft b_bWidth b_bOp b_bConstant b_follow b_ends b_first b_last b_none b_set b_leads b_apart b_state b_to b_look b_begins b_nullable b_act b_built b_leadTo b_text b_fits b_token b_stack b_worth by
      rw [← en] at this; exact this
    refine yr_44 ht (by omega : e < 6) hn hk htx ek (fun p f => (∀ ε i j, ε < 7 → i ≤ 20 → j ≤ 20 → (ε ≠ e ∨ i < p) → f (441 * ε + 21 * i + j) = b_fits (441 * ε + 21 * i + j)) ∧ (∀ i j, p ≤ i → i ≤ j → j ≤ n → (ft f e i j ↔ cv (nv b_text) b_fits t e i j))) ?_ (fun z => absurd z c78) ?_ (n + 1 - a) (n + 1) b_fits (by omega) (by omega) ⟨fun _ _ _ _ _ _ _ => rfl, fun i j x y z => absurd x (by omega)⟩
    · rintro q f f' hq1 hq2 ⟨g1, g2⟩ ⟨c1, c2⟩
      rw [if_neg c78] at c1 c2
      refine ⟨fun ε i j x y z w => ?_, fun i j x y z => ?_⟩
      · rw [c1 _ (fun j' _ _ => by omega) (fun _ j' _ _ => by omega)]; exact g1 ε i j x y z (by omega)
      · by_cases ei : i = q
        · subst ei
          refine (c2 j y z).trans ?_
          have g : ∀ ε p q, ε < 7 → p ≤ 20 → q ≤ 20 → (ε ≠ e ∨ p < i + 1) → (ft f ε p q ↔ ft b_fits ε p q) := by
            intro ε p q u v w r
            unfold ft
            rw [g1 ε p q u v w r]
          unfold cv
          by_cases q0 : t < 5
          · rw [if_pos q0, if_pos q0]
          rw [if_neg q0, if_neg q0]
          by_cases q5 : t = 5
          · rw [if_pos q5, if_pos q5]
            refine ⟨fun ⟨m, u, v, w, r⟩ => ⟨m, u, v, ?_, ?_⟩, fun ⟨m, u, v, w, r⟩ => ⟨m, u, v, ?_, ?_⟩⟩
            · exact (g _ _ _ (by omega) (by omega) (by omega) (by omega)).mp w
            · exact (g _ _ _ (by omega) (by omega) (by omega) (by omega)).mp r
            · exact (g _ _ _ (by omega) (by omega) (by omega) (by omega)).mpr w
            · exact (g _ _ _ (by omega) (by omega) (by omega) (by omega)).mpr r
          rw [if_neg q5, if_neg q5]
          by_cases q6 : t = 6
          · rw [if_pos q6, if_pos q6, g _ _ _ (by omega) (by omega) (by omega) (by omega), g _ _ _ (by omega) (by omega) (by omega) (by omega)]
          rw [if_neg q6, if_neg q6, if_pos (by omega), if_pos (by omega), g _ _ _ (by omega) (by omega) (by omega) (by omega)]
        · rw [← g2 i j (by omega) y z]
          unfold ft
          rw [c1 _ (fun j' _ _ => by omega) (fun _ j' _ _ => by omega)]
    · rintro - f ⟨g1, g2⟩
      refine H f ?_
      intro ε hε i j hi hij hj
      by_cases ee : ε = e
      · subst ee
        refine (g2 i j hi hij hj).trans ?_
        unfold cv sm us
        by_cases q0 : t < 5
        · rw [if_pos q0, if_pos q0, if_pos (e5.1 q0)]
        rw [if_neg q0, if_neg q0]
        by_cases q5 : t = 5
        · have := e5.2.1 (Or.inl q5)
          rw [if_pos q5, if_pos q5, if_pos (by omega)]
          refine ⟨fun ⟨m, u, v, w, r⟩ => ⟨m, u, v, ?_, ?_⟩, fun ⟨m, u, v, w, r⟩ => ⟨m, u, v, ?_, ?_⟩⟩
          · rw [show d - 2 = ε by omega]; exact (hs _ (by omega) _ _ hi u (by omega)).mp w
          · rw [show d - 1 = ε + 1 by omega]; exact (hs _ (by omega) _ _ (by omega) v hj).mp r
          · rw [show d - 2 = ε by omega] at w; exact (hs _ (by omega) _ _ hi u (by omega)).mpr w
          · rw [show d - 1 = ε + 1 by omega] at r; exact (hs _ (by omega) _ _ (by omega) v hj).mpr r
        rw [if_neg q5, if_neg q5]
        by_cases q6 : t = 6
        · have := e5.2.1 (Or.inr q6)
          rw [if_pos q6, if_pos q6, if_pos (by omega), show d - 2 = ε by omega, show d - 1 = ε + 1 by omega, hs _ (by omega) _ _ hi hij hj, hs _ (by omega) _ _ hi hij hj]
        have := e5.2.2 (by omega)
        rw [if_neg q6, if_neg q6, if_pos (by omega), if_neg (by omega), if_neg (by omega), if_pos (by omega), show d - 1 = ε by omega, hs _ (by omega) _ _ hi hij hj]
      · have : sm (nv b_text) t d s ε = s ε := by
          unfold sm us
          by_cases q0 : t < 5
          · rw [if_pos q0, if_neg (by have := e5.1 q0; omega)]
          rw [if_neg q0]
          by_cases q5 : t = 5
          · rw [if_pos q5, if_neg (by have := e5.2.1 (Or.inl q5); omega)]
          rw [if_neg q5]
          by_cases q6 : t = 6
          · rw [if_pos q6, if_neg (by have := e5.2.1 (Or.inr q6); omega)]
          rw [if_neg q6, if_neg (by omega), if_neg (by omega), if_neg (by have := e5.2.2 (by omega); omega)]
        rw [this]
        rw [← hs ε (by omega) i j hi hij hj]
        unfold ft
        rw [g1 ε i j (by omega) (by omega) (by omega) (Or.inl ee)]
end
end
section
/-! the reference's scan against the cut -/
def lsp (tl tm sz : Nat → Nat) (r a n best : Nat) : Prop :=
  (best = 0 ∧ ∀ j, a < j → j ≤ n → ¬ lg tl tm sz r a j) ∨ (0 < best ∧ a + best ≤ n ∧ lg tl tm sz r a (a + best) ∧ ∀ j, a + best < j → j ≤ n → ¬ lg tl tm sz r a j)
section
variable {g_productions : Int32} {g_start : Int64} {g_sets g_states g_conflicts g_ready g_length g_tokens g_stuck g_scanned g_value g_place : Int32} {b_term b_size b_skipped b_left b_right b_width b_op b_constant b_rank b_grouping b_bTerm b_bSize b_bSkipped b_bLeft b_bWidth b_bOp b_bConstant : Nat → Int32} {b_follow b_ends b_first b_last : Nat → Int64} {b_none : Nat → Int32} {b_set : Nat → Int64} {b_leads b_apart : Nat → Int32} {b_state : Nat → Int64} {b_to b_look b_begins b_nullable b_act b_built b_leadTo b_text b_fits b_token b_stack b_worth : Nat → Int32} {post : Int32 → SY → Prop}
theorem yta_ {post : Int32 → Prop} {t : Nat} (ht : t < 10) (h : post (nI (tk t))) : wpY_takes post (g_productions, g_start, g_sets, g_states, g_conflicts, g_ready, g_length, g_tokens, g_stuck, g_scanned, g_value, g_place, b_term, b_size, b_skipped, b_left, b_right, b_width, b_op, b_constant, b_rank, b_grouping, b_bTerm, b_bSize, b_bSkipped, b_bLeft, b_bWidth, b_bOp, b_bConstant, b_follow, b_ends, b_first, b_last, b_none, b_set, b_leads, b_apart, b_state, b_to, b_look, b_begins, b_nullable, b_act, b_built, b_leadTo, b_text, b_fits, b_token, b_stack, b_worth) (nI t) := by
  unfold tk at h
  refine pk_le 5 t (fun c => pk_le 7 t (fun c2 => ?_) (fun c2 => ?_)) (fun c => ?_)
  · rw [if_neg (by omega), if_neg (by omega)] at h; exact h
  · rw [if_neg (by omega), if_pos (by omega)] at h; exact h
  · rw [if_pos (by omega)] at h; exact h
theorem y218 {a n : Nat} (han : a ≤ n) (hn : n ≤ 20) (H : ∀ best, ((best = 0 ∧ ∀ q, a < q → q < n + 1 → ¬ ft b_fits 0 a q) ∨ (0 < best ∧ a + best < n + 1 ∧ ft b_fits 0 a (a + best) ∧ ∀ q, a + best < q → q < n + 1 → ¬ ft b_fits 0 a q)) → post (nI best) (g_productions, g_start, g_sets, g_states, g_conflicts, g_ready, nI n, g_tokens, g_stuck, g_scanned, g_value, g_place, b_term, b_size, b_skipped, b_left, b_right, b_width, b_op, b_constant, b_rank, b_grouping, b_bTerm, b_bSize, b_bSkipped, b_bLeft, b_bWidth, b_bOp, b_bConstant, b_follow, b_ends, b_first, b_last, b_none, b_set, b_leads, b_apart, b_state, b_to, b_look, b_begins, b_nullable, b_act, b_built, b_leadTo, b_text, b_fits, b_token, b_stack, b_worth)) :
    ∀ d j best, j + d = n + 1 → a < j → ((best = 0 ∧ ∀ q, a < q → q < j → ¬ ft b_fits 0 a q) ∨ (0 < best ∧ a + best < j ∧ ft b_fits 0 a (a + best) ∧ ∀ q, a + best < q → q < j → ¬ ft b_fits 0 a q)) →
    wY_longest_218 post (nI a) (nI 1) g_productions g_start g_sets g_states g_conflicts g_ready (nI n) g_tokens g_stuck g_scanned g_value g_place b_term b_size b_skipped b_left b_right b_width b_op b_constant b_rank b_grouping b_bTerm b_bSize b_bSkipped b_bLeft b_bWidth b_bOp b_bConstant b_follow b_ends b_first b_last b_none b_set b_leads b_apart b_state b_to b_look b_begins b_nullable b_act b_built b_leadTo b_text b_fits b_token b_stack b_worth (d + 1) (nI best) (nI j) := by
  intro d
  induction d with
  | zero =>
    intro j best hj haj h
    have : j = n + 1 := by omega
    subst this
    exact pk_lt n (n + 1) (fun _ => H best h) (fun z => absurd z (by omega))
  | succ d ih =>
    intro j best hj haj h
    refine pk_lt n j (fun z => absurd z (by omega)) (fun _ => pk_le 1 0 (fun z => absurd z (by omega)) (fun _ => yp_ (e := 0) ⟨vp_in_nI (by omega) (by omega), ?_⟩))
    rw [nI_clamp (by omega)]
    by_cases c : b_fits (441 * 0 + 21 * a + j) = 0
    · refine br_t c (nm_r (nI_1 j) (ih (j + 1) best (by omega) (by omega) ?_))
      rcases h with ⟨h1, h2⟩ | ⟨h1, h2, h3, h4⟩
      · refine Or.inl ⟨h1, fun q x y => ?_⟩
        by_cases e : q = j
        · subst e; exact fun z => z c
        · exact h2 q x (by omega)
      · refine Or.inr ⟨h1, by omega, h3, fun q x y => ?_⟩
        by_cases e : q = j
        · subst e; exact fun z => z c
        · exact h4 q x (by omega)
    · refine br_f c (nm_r (pk_sub (by omega)) (nm_r (nI_1 j) (ih (j + 1) (j - a) (by omega) (by omega) (Or.inr ⟨by omega, by omega, ?_, fun q x y => absurd x (by omega)⟩))))
      rw [show a + (j - a) = j by omega]; exact c
theorem yl_8 {r a n z : Nat} (hr : r < 4) (han : a ≤ n) (hn : n ≤ 20) (htx : ∀ k, ∃ l, l < 4 ∧ b_text k = nI l) (hru : ru_ok b_bTerm b_bSize) (hw : wf_ (nv b_bTerm) (8 * r) z) (hz8 : z ≤ 8) (ez : b_bSize r = nI z)
    (H : ∀ best (f : Nat → Int32), lsp (nv b_text) (nv b_bTerm) (nv b_bSize) r a n best → post (nI best) (g_productions, g_start, g_sets, g_states, g_conflicts, g_ready, nI n, g_tokens, g_stuck, g_scanned, g_value, g_place, b_term, b_size, b_skipped, b_left, b_right, b_width, b_op, b_constant, b_rank, b_grouping, b_bTerm, b_bSize, b_bSkipped, b_bLeft, b_bWidth, b_bOp, b_bConstant, b_follow, b_ends, b_first, b_last, b_none, b_set, b_leads, b_apart, b_state, b_to, b_look, b_begins, b_nullable, b_act, b_built, b_leadTo, b_text, f, b_token, b_stack, b_worth)) :
    ∀ d k (f : Nat → Int32), k + d = z → (∀ ε, ε < dp (nv b_bTerm) (8 * r) k → ∀ i j, a ≤ i → i ≤ j → j ≤ n → (ft f ε i j ↔ ev (nv b_text) (nv b_bTerm) (8 * r) k ε i j)) →
    wY_longest_8 post (nI r) (nI a) (d + 1) (nI (dp (nv b_bTerm) (8 * r) k)) (nI (8 * r + k)) g_productions g_start g_sets g_states g_conflicts g_ready (nI n) g_tokens g_stuck g_scanned g_value g_place b_term b_size b_skipped b_left b_right b_width b_op b_constant b_rank b_grouping b_bTerm b_bSize b_bSkipped b_bLeft b_bWidth b_bOp b_bConstant b_follow b_ends b_first b_last b_none b_set b_leads b_apart b_state b_to b_look b_begins b_nullable b_act b_built b_leadTo b_text f b_token b_stack b_worth := by
  have c1 : (nI r).toNatClampNeg = r := nI_clamp (by omega)
  have e8 : 8 * nI r + nI z = nI (8 * r + z) := by rw [show (8 : Int32) = nI 8 from rfl, pk_mul, nI_add]
  have ezn : nv b_bSize r = z := by unfold nv; rw [ez]; exact nI_clamp (by omega)
  intro d
  induction d with
  | zero =>
    intro k f hk hf
    have : k = z := by omega
    subst this
    refine ⟨vp_in_nI hr (by omega), ?_⟩
    rw [c1, ez, e8]
    refine pk_le (8 * r + k) (8 * r + k) (fun _ => nm_r (nI_1 a) ?_) (fun z => absurd z (by omega))
    rcases hw.2 with h0 | h1
    · subst h0
      refine ⟨1, ?_⟩
      have hl : post (nI 0) (g_productions, g_start, g_sets, g_states, g_conflicts, g_ready, nI n, g_tokens, g_stuck, g_scanned, g_value, g_place, b_term, b_size, b_skipped, b_left, b_right, b_width, b_op, b_constant, b_rank, b_grouping, b_bTerm, b_bSize, b_bSkipped, b_bLeft, b_bWidth, b_bOp, b_bConstant, b_follow, b_ends, b_first, b_last, b_none, b_set, b_leads, b_apart, b_state, b_to, b_look, b_begins, b_nullable, b_act, b_built, b_leadTo, b_text, f, b_token, b_stack, b_worth) := H 0 f (Or.inl ⟨rfl, fun j _ _ z => absurd z.1 (by rw [ezn]; omega)⟩)
      exact br_c (fun _ => hl) (fun _ => pk_le 0 0 (fun _ => hl) (fun z => absurd z (by omega)))
    · rw [h1]
      have hf0 := hf 0 (by omega) a
      have k0 : 0 < k := by
        rcases Nat.eq_zero_or_pos k with z | z
        · subst z; exact absurd h1 (by show ¬ (0 = 1); decide)
        · exact z
      have hlg : ∀ j, a ≤ j → j ≤ n → (ft f 0 a j ↔ lg (nv b_text) (nv b_bTerm) (nv b_bSize) r a j) := by
        intro j h2 h3
        refine (hf0 j (by omega) h2 h3).trans ?_
        unfold lg
        rw [ezn]
        exact ⟨fun z => ⟨k0, z⟩, fun z => z.2⟩
      refine ⟨n - a + 1, y218 (b_fits := f) han hn (fun best hb => H best f ?_) (n - a) (a + 1) 0 (by omega) (by omega) (Or.inl ⟨rfl, fun q x y => absurd x (by omega)⟩)⟩
      rcases hb with ⟨b1, b2⟩ | ⟨b1, b2, b3, b4⟩
      · exact Or.inl ⟨b1, fun j x y z => b2 j x (by omega) ((hlg j (by omega) y).mpr z)⟩
      · exact Or.inr ⟨b1, by omega, (hlg _ (by omega) (by omega)).mp b3, fun j x y z => b4 j x (by omega) ((hlg j (by omega) y).mpr z)⟩
  | succ d ih =>
    intro k f hk hf
    obtain ⟨t, ht, et⟩ := hru.1 (8 * r + k)
    have etn : nv b_bTerm (8 * r + k) = t := by unfold nv; rw [et]; exact nI_clamp (by omega)
    have htk := hw.1 k (by omega)
    rw [etn] at htk
    have hdp : dp (nv b_bTerm) (8 * r) (k + 1) = dp (nv b_bTerm) (8 * r) k - tk t + 1 := by
      show dp (nv b_bTerm) (8 * r) k + 1 - tk (nv b_bTerm (8 * r + k)) = _
      rw [etn]; omega
    have hd4 := dp_4 hw hz8 (k := k) (by omega)
    refine ⟨vp_in_nI hr (by omega), ?_⟩
    rw [c1, ez, e8]
    refine pk_le (8 * r + z) (8 * r + k) (fun z => absurd z (by omega)) (fun _ => ⟨vp_in_nI (by omega) (by omega), ?_⟩)
    rw [nI_clamp (show 8 * r + k < 2 ^ 31 by omega), et]
    refine yta_ ht (nm_r (pk_sub htk) ?_)
    refine yt_ (b_fits := f) ht htk rfl hd4 hn han (by omega) htx et hf (fun f' hf' => ?_)
    rw [← hdp, Nat.add_assoc]
    refine ih (k + 1) f' (by omega) ?_
    intro ε hε i j x y w
    rw [hdp] at hε
    refine (hf' ε hε i j x y w).trans ?_
    show _ ↔ sm (nv b_text) (nv b_bTerm (8 * r + k)) (dp (nv b_bTerm) (8 * r) k) (ev (nv b_text) (nv b_bTerm) (8 * r) k) ε i j
    rw [etn]
theorem yl_ {r a n : Nat} (hr : r < 4) (han : a ≤ n) (hn : n ≤ 20) (htx : ∀ k, ∃ l, l < 4 ∧ b_text k = nI l) (hru : ru_ok b_bTerm b_bSize) (hw : wf_ (nv b_bTerm) (8 * r) (nv b_bSize r))
    (H : ∀ best (f : Nat → Int32), lsp (nv b_text) (nv b_bTerm) (nv b_bSize) r a n best → post (nI best) (g_productions, g_start, g_sets, g_states, g_conflicts, g_ready, nI n, g_tokens, g_stuck, g_scanned, g_value, g_place, b_term, b_size, b_skipped, b_left, b_right, b_width, b_op, b_constant, b_rank, b_grouping, b_bTerm, b_bSize, b_bSkipped, b_bLeft, b_bWidth, b_bOp, b_bConstant, b_follow, b_ends, b_first, b_last, b_none, b_set, b_leads, b_apart, b_state, b_to, b_look, b_begins, b_nullable, b_act, b_built, b_leadTo, b_text, f, b_token, b_stack, b_worth)) : wpY_longest post (g_productions, g_start, g_sets, g_states, g_conflicts, g_ready, nI n, g_tokens, g_stuck, g_scanned, g_value, g_place, b_term, b_size, b_skipped, b_left, b_right, b_width, b_op, b_constant, b_rank, b_grouping, b_bTerm, b_bSize, b_bSkipped, b_bLeft, b_bWidth, b_bOp, b_bConstant, b_follow, b_ends, b_first, b_last, b_none, b_set, b_leads, b_apart, b_state, b_to, b_look, b_begins, b_nullable, b_act, b_built, b_leadTo, b_text, b_fits, b_token, b_stack, b_worth) (nI r) (nI a) := by
  obtain ⟨z, hz, ez⟩ := hru.2 r
  have ezn : nv b_bSize r = z := by unfold nv; rw [ez]; exact nI_clamp (by omega)
  rw [ezn] at hw
  refine nm_r (e' := nI (8 * r + 0)) (by rw [show (8 : Int32) = nI 8 from rfl, pk_mul]; rfl) ⟨z + 1, ?_⟩
  exact yl_8 hr han hn htx hru hw hz ez H z 0 b_fits (by omega) (fun ε h => absurd h (Nat.not_lt_zero _))
end
/-- the longest match of all rules: its end and its rule -/
def msp (tl tm sz : Nat → Nat) (a i q e : Nat) (m : Int32) : Prop :=
  (m = -1 ∧ ∀ r, r < q → ∀ j, a < j → j ≤ i → ¬ lg tl tm sz r a j) ∨
  ∃ r, r < q ∧ m = nI r ∧ a < e ∧ e ≤ i ∧ lg tl tm sz r a e ∧ (∀ p, p < r → ¬ lg tl tm sz p a e) ∧ ∀ p, p < q → ∀ j, e < j → j ≤ i → ¬ lg tl tm sz p a j
theorem dr_m1 {st : Nat → Int32} {tl : Nat → Nat} {a k : Nat} (h : dr st tl a k = -1) : ∀ d, dr st tl a (k + d) = -1
  | 0 => h
  | d + 1 => by
    show (if dr st tl a (k + d) = -1 then -1 else _) = _
    rw [if_pos (dr_m1 h d)]
theorem mu_s {st ma : Nat → Int32} {tl tm sz : Nat → Nat} {a n c : Nat} (hc : c ≤ 61)
    (hst : ∀ s l, s < c → l < 4 → st (4 * s + l) = -1 ∨ ∃ q, q < c ∧ st (4 * s + l) = nI q) (htl : ∀ i, tl i < 4) (hm : ∀ m, sc_m st ma tl tm sz a m) :
    ∀ d i s e m, a ≤ i → i + d = n → s < c → dr st tl a (i - a) = nI s → msp tl tm sz a i 4 e m → msp tl tm sz a n 4 (mu st ma tl d i s (e, m)).1 (mu st ma tl d i s (e, m)).2 := by
  intro d
  induction d with
  | zero => intro i s e m hi hn hs hd h; have : i = n := by omega
            subst this; exact h
  | succ d ih =>
    intro i s e m hi hn hs hd h
    have hdr : dr st tl a (i - a + 1) = st (4 * s + tl i) := by
      show (if dr st tl a (i - a) = -1 then -1 else st (4 * (dr st tl a (i - a)).toNatClampNeg + tl (a + (i - a)))) = _
      rw [hd, if_neg (zn_ne1 (by omega)), nI_clamp (by omega), show a + (i - a) = i by omega]
    unfold mu
    rcases hst s (tl i) hs (htl i) with h1 | ⟨q, hq, h1⟩
    · rw [if_pos h1]
      have no : ∀ r, r < 4 → ∀ j, i < j → ¬ lg tl tm sz r a j := by
        intro r hr j hj
        have h2 := dr_m1 (hdr.trans h1) (j - i - 1)
        have h3 := hm (j - a - 1)
        rcases h3 with ⟨_, h4⟩ | ⟨r', hr', h4, _⟩
        · rw [show a + (j - a - 1) + 1 = j by omega] at h4; exact h4 r hr
        · unfold sc_v at h4
          rw [show j - a - 1 + 1 = i - a + 1 + (j - i - 1) by omega, if_pos h2] at h4
          exact absurd h4.symm (zn_ne1 (by omega))
      rcases h with ⟨e1, h2⟩ | ⟨r, h2, h3, h4, h5, h6, h7, h8⟩
      · refine Or.inl ⟨e1, fun r hr j x y => ?_⟩
        by_cases z : j ≤ i
        · exact h2 r hr j x z
        · exact no r hr j (by omega)
      · refine Or.inr ⟨r, h2, h3, h4, by show e ≤ n; omega, h6, h7, fun p hp j x y => ?_⟩
        by_cases z : j ≤ i
        · exact h8 p hp j x z
        · exact no p hp j (by omega)
    · have h1' := h1
      rw [if_neg (by rw [h1]; exact zn_ne1 (by omega)), h1, nI_clamp (by omega)]
      have hv : sc_v st ma tl a (i - a + 1) = ma q := by
        unfold sc_v
        rw [hdr, h1, if_neg (zn_ne1 (by omega)), nI_clamp (by omega)]
      have h3 := hm (i - a)
      unfold sc_m at h3
      rw [hv, show a + (i - a) + 1 = i + 1 by omega] at h3
      have hd' : dr st tl a (i + 1 - a) = nI q := by rw [show i + 1 - a = i - a + 1 by omega, hdr, h1]
      rcases h3 with ⟨h4, h5⟩ | ⟨r, hr, h4, h5, h6⟩
      · rw [if_pos h4]
        refine ih (i + 1) q e m (by omega) (by omega) hq hd' ?_
        rcases h with ⟨e1, h2⟩ | ⟨r, h2, h3, h4, h5', h6, h7, h8⟩
        · refine Or.inl ⟨e1, fun r hr j x y => ?_⟩
          by_cases z : j ≤ i
          · exact h2 r hr j x z
          · have : j = i + 1 := by omega
            subst this; exact h5 r hr
        · refine Or.inr ⟨r, h2, h3, h4, by omega, h6, h7, fun p hp j x y => ?_⟩
          by_cases z : j ≤ i
          · exact h8 p hp j x z
          · have : j = i + 1 := by omega
            subst this; exact h5 p hp
      · rw [if_neg (by rw [h4]; exact zn_ne1 (by omega)), h4]
        exact ih (i + 1) q (i + 1) (nI r) (by omega) (by omega) hq hd' (Or.inr ⟨r, hr, rfl, by omega, by omega, h5, h6, fun p hp j x y => absurd x (by omega)⟩)
theorem mx_s {st ma bT bS : Nat → Int32} {tl : Nat → Nat} {a n : Nat} (hs : sc_ok st ma bT bS) (htl : ∀ i, tl i < 4) (ha : a ≤ n) : msp tl (nv bT) (nv bS) a n 4 (mx st ma tl n a).1 (mx st ma tl n a).2 := by
  obtain ⟨-, -, c, hc0, hc, hst, hma, hm⟩ := hs
  exact mu_s hc hst htl (hm tl htl a) (n - a) a 0 a (-1) (by omega) (by omega) hc0 (by rw [Nat.sub_self]; rfl) (Or.inl ⟨rfl, fun r hr j x y => absurd x (by omega)⟩)
theorem ms_u {tl tm sz : Nat → Nat} {a n e e' : Nat} {m m' : Int32} (h : msp tl tm sz a n 4 e m) (h' : msp tl tm sz a n 4 e' m') : m = m' ∧ (m = -1 ∨ e = e') := by
  rcases h with ⟨h1, h2⟩ | ⟨r, h1, h2, h3, h4, h5, h6, h7⟩
  · rcases h' with ⟨k1, k2⟩ | ⟨q, k1, k2, k3, k4, k5, k6, k7⟩
    · exact ⟨by rw [h1, k1], Or.inl h1⟩
    · exact absurd k5 (h2 q k1 e' k3 k4)
  · rcases h' with ⟨k1, k2⟩ | ⟨q, k1, k2, k3, k4, k5, k6, k7⟩
    · exact absurd h5 (k2 r h1 e h3 h4)
    · have ee : e = e' := by
        rcases Nat.lt_trichotomy e e' with z | z | z
        · exact absurd k5 (h7 q k1 e' z k4)
        · exact z
        · exact absurd h5 (k7 r h1 e z h4)
      subst ee
      have : r = q := by
        rcases Nat.lt_trichotomy r q with z | z | z
        · exact absurd h5 (k6 r z)
        · exact z
        · exact absurd k5 (h6 q z)
      subst this
      exact ⟨by rw [h2, k2], Or.inr rfl⟩
section
variable {g_productions : Int32} {g_start : Int64} {g_sets g_states g_conflicts g_ready g_length g_tokens g_stuck g_scanned g_value g_place : Int32} {b_term b_size b_skipped b_left b_right b_width b_op b_constant b_rank b_grouping b_bTerm b_bSize b_bSkipped b_bLeft b_bWidth b_bOp b_bConstant : Nat → Int32} {b_follow b_ends b_first b_last : Nat → Int64} {b_none : Nat → Int32} {b_set : Nat → Int64} {b_leads b_apart : Nat → Int32} {b_state : Nat → Int64} {b_to b_look b_begins b_nullable b_act b_built b_leadTo b_text b_fits b_token b_stack b_worth : Nat → Int32} {post : SY → Prop} {J25 : Int32 → Int32 → Int64 → Int32 → Int32 → Int32 → Int32 → Int32 → Int32 → Int32 → Int32 → Int32 → Int32 → (Nat → Int32) → (Nat → Int32) → (Nat → Int32) → (Nat → Int32) → (Nat → Int32) → (Nat → Int32) → (Nat → Int32) → (Nat → Int32) → (Nat → Int32) → (Nat → Int32) → (Nat → Int32) → (Nat → Int32) → (Nat → Int32) → (Nat → Int32) → (Nat → Int32) → (Nat → Int32) → (Nat → Int32) → (Nat → Int64) → (Nat → Int64) → (Nat → Int64) → (Nat → Int64) → (Nat → Int32) → (Nat → Int64) → (Nat → Int32) → (Nat → Int32) → (Nat → Int64) → (Nat → Int32) → (Nat → Int32) → (Nat → Int32) → (Nat → Int32) → (Nat → Int32) → (Nat → Int32) → (Nat → Int32) → (Nat → Int32) → (Nat → Int32) → (Nat → Int32) → (Nat → Int32) → (Nat → Int32) → Prop}
theorem ys_47 {a n : Nat} (han : a < n) (hn : n ≤ 20) (htx : ∀ k, ∃ l, l < 4 ∧ b_text k = nI l) (hru : ru_ok b_bTerm b_bSize) (hw : ∀ r, r < 4 → wf_ (nv b_bTerm) (8 * r) (nv b_bSize r)) {cn : Nat} (hcn : cn < 20)
    (H0 : (∀ r, r < 4 → ∀ j, a < j → j ≤ n → ¬ lg (nv b_text) (nv b_bTerm) (nv b_bSize) r a j) → ∀ f : Nat → Int32, J25 (nI a) g_productions g_start g_sets g_states g_conflicts g_ready (nI n) (nI cn) (nI a) g_scanned g_value g_place b_term b_size b_skipped b_left b_right b_width b_op b_constant b_rank b_grouping b_bTerm b_bSize b_bSkipped b_bLeft b_bWidth b_bOp b_bConstant b_follow b_ends b_first b_last b_none b_set b_leads b_apart b_state b_to b_look b_begins b_nullable b_act b_built b_leadTo b_text f b_token b_stack b_worth)
    (H1 : ∀ r e, r < 4 → msp (nv b_text) (nv b_bTerm) (nv b_bSize) a n 4 e (nI r) → a < e → e ≤ n → ∀ f : Nat → Int32, (b_bSkipped r = 0 → J25 (nI e) g_productions g_start g_sets g_states g_conflicts g_ready (nI n) (nI (cn + 1)) g_stuck g_scanned g_value g_place b_term b_size b_skipped b_left b_right b_width b_op b_constant b_rank b_grouping b_bTerm b_bSize b_bSkipped b_bLeft b_bWidth b_bOp b_bConstant b_follow b_ends b_first b_last b_none b_set b_leads b_apart b_state b_to b_look b_begins b_nullable b_act b_built b_leadTo b_text f (upd (upd (upd b_token (3 * cn) (nI r)) (3 * cn + 1) (nI a)) (3 * cn + 2) (nI e)) b_stack b_worth) ∧ (¬ b_bSkipped r = 0 → J25 (nI e) g_productions g_start g_sets g_states g_conflicts g_ready (nI n) (nI cn) g_stuck g_scanned g_value g_place b_term b_size b_skipped b_left b_right b_width b_op b_constant b_rank b_grouping b_bTerm b_bSize b_bSkipped b_bLeft b_bWidth b_bOp b_bConstant b_follow b_ends b_first b_last b_none b_set b_leads b_apart b_state b_to b_look b_begins b_nullable b_act b_built b_leadTo b_text f b_token b_stack b_worth)) :
    ∀ d r best by_ (f : Nat → Int32), r + d = 4 → msp (nv b_text) (nv b_bTerm) (nv b_bSize) a n r (a + best) by_ → (by_ = -1 ↔ best = 0) →
    wY_scan_47 post J25 (nI a) (d + 1) (nI best) by_ (nI r) g_productions g_start g_sets g_states g_conflicts g_ready (nI n) (nI cn) g_stuck g_scanned g_value g_place b_term b_size b_skipped b_left b_right b_width b_op b_constant b_rank b_grouping b_bTerm b_bSize b_bSkipped b_bLeft b_bWidth b_bOp b_bConstant b_follow b_ends b_first b_last b_none b_set b_leads b_apart b_state b_to b_look b_begins b_nullable b_act b_built b_leadTo b_text f b_token b_stack b_worth := by
  intro d
  induction d with
  | zero =>
    intro r best by_ f hr hm hb
    have : r = 4 := by omega
    subst this
    refine pk_le 4 4 (fun _ => ?_) (fun z => absurd z (by omega))
    rcases hm with ⟨h1, h2⟩ | ⟨q, h1, h2, h3, h4, h5, h6, h7⟩
    · have b0 := hb.mp h1
      subst b0
      refine br_t rfl (nm_r (e' := nI a) (by rw [nI_add]; rfl) (H0 h2 f))
    · have hq : best < 2 ^ 31 := by omega
      have bn : best ≠ 0 := fun z => zn_ne1 (n := q) (by omega) (by rw [← h2]; exact hb.mpr z)
      obtain ⟨g1, g2⟩ := H1 q (a + best) h1 (Or.inr ⟨q, h1, rfl, h3, h4, h5, h6, h7⟩) h3 h4 f
      subst h2
      refine br_f (nI_ne0 (by omega) hq) ⟨vp_in_nI h1 (by omega), ?_⟩
      rw [nI_clamp (show q < 2 ^ 31 by omega)]
      refine br_c (fun c => ?_) (fun c => nm_r (nI_add a best) (g2 c))
      have e0 : 3 * nI cn = nI (3 * cn) := by rw [show (3 : Int32) = nI 3 from rfl, pk_mul]
      have e1 : 3 * nI cn + 1 = nI (3 * cn + 1) := by rw [e0, nI_1]
      have e2 : 3 * nI cn + 2 = nI (3 * cn + 2) := by rw [e0, show (2 : Int32) = nI 2 from rfl, nI_add]
      rw [e2, e1, e0, nI_clamp (by omega), nI_clamp (by omega), nI_clamp (by omega)]
      refine ⟨vp_in_nI (by omega) (by omega), nm_e ⟨vp_in_nI (by omega) (by omega), nm_e (nm_r (nI_1 cn) ⟨vp_in_nI (by omega) (by omega), nm_e (nm_r (nI_add a best) ?_)⟩)⟩⟩
      rw [nI_add a best]
      exact g1 c
  | succ d ih =>
    intro r best by_ f hr hm hb
    refine pk_le 4 r (fun z => absurd z (by omega)) (fun _ => ?_)
    refine yl_ (b_fits := f) (by omega) (by omega) hn htx hru (hw r (by omega)) (fun b' f' hl => ?_)
    dsimp only
    have hbn : best ≤ 20 := by
      rcases hm with ⟨h1, -⟩ | ⟨q, h1, h2, h3, h4, -⟩
      · have := hb.mp h1; omega
      · omega
    have hbn' : b' ≤ 20 := by
      rcases hl with ⟨h1, -⟩ | ⟨h1, h2, -⟩ <;> omega
    refine pk_le b' best (fun c => nm_r (nI_1 r) (ih (r + 1) best by_ f' (by omega) ?_ hb)) (fun c => nm_r (nI_1 r) (ih (r + 1) b' (nI r) f' (by omega) ?_ ⟨fun z => absurd z (zn_ne1 (by omega)), fun z => absurd z (by omega)⟩))
    · rcases hm with ⟨h1, h2⟩ | ⟨q, h1, h2, h3, h4, h5, h6, h7⟩
      · have b0 := hb.mp h1
        refine Or.inl ⟨h1, fun p hp j x y => ?_⟩
        by_cases e : p = r
        · subst e
          rcases hl with ⟨k1, k2⟩ | ⟨k1, -⟩
          · exact k2 j x y
          · omega
        · exact h2 p (by omega) j x y
      · refine Or.inr ⟨q, by omega, h2, h3, h4, h5, h6, fun p hp j x y => ?_⟩
        by_cases e : p = r
        · subst e
          rcases hl with ⟨k1, k2⟩ | ⟨k1, k2, k3, k4⟩
          · exact k2 j (by omega) y
          · exact k4 j (by omega) y
        · exact h7 p (by omega) j x y
    · rcases hl with ⟨k1, -⟩ | ⟨k1, k2, k3, k4⟩
      · omega
      · refine Or.inr ⟨r, by omega, rfl, by omega, k2, k3, fun p hp => ?_, fun p hp j x y => ?_⟩
        · rcases hm with ⟨h1, h2⟩ | ⟨q, h1, h2, h3, h4, h5, h6, h7⟩
          · exact h2 p hp _ (by omega) k2
          · exact h7 p hp _ (by omega) k2
        · by_cases e : p = r
          · subst e; exact k4 j x y
          · rcases hm with ⟨h1, h2⟩ | ⟨q, h1, h2, h3, h4, h5, h6, h7⟩
            · exact h2 p (by omega) j (by omega) y
            · exact h7 p (by omega) j (by omega) y
theorem ys_25 {n : Nat} {st ma sk : Nat → Int32} (hn : n ≤ 20) (htx : ∀ k, ∃ l, l < 4 ∧ b_text k = nI l) (hs : sc_ok st ma b_bTerm b_bSize) (hsk : ∀ r, r < 4 → b_bSkipped r = sk r) {z : Nat × Nat × (Nat → Int32) × (Nat → Int32) × (Nat → Int32)}
    (H : ∀ (su : Int32) (f tk : Nat → Int32), tk_ok z n (nI z.2.1) su tk → post (g_productions, g_start, g_sets, g_states, g_conflicts, g_ready, nI n, nI z.2.1, su, g_scanned, g_value, g_place, b_term, b_size, b_skipped, b_left, b_right, b_width, b_op, b_constant, b_rank, b_grouping, b_bTerm, b_bSize, b_bSkipped, b_bLeft, b_bWidth, b_bOp, b_bConstant, b_follow, b_ends, b_first, b_last, b_none, b_set, b_leads, b_apart, b_state, b_to, b_look, b_begins, b_nullable, b_act, b_built, b_leadTo, b_text, f, tk, b_stack, b_worth)) :
    ∀ d a cn p b e (f tk : Nat → Int32), a ≤ n → n ≤ a + d → cn + d ≤ 20 → (∀ k, k < cn → tk (3 * k) = p k ∧ tk (3 * k + 1) = b k ∧ tk (3 * k + 2) = e k) → ct st ma sk (nv b_text) n d (a, cn, p, b, e) = z →
      wY_scan_25 post (d + 2) (nI a) g_productions g_start g_sets g_states g_conflicts g_ready (nI n) (nI cn) (-1) g_scanned g_value g_place b_term b_size b_skipped b_left b_right b_width b_op b_constant b_rank b_grouping b_bTerm b_bSize b_bSkipped b_bLeft b_bWidth b_bOp b_bConstant b_follow b_ends b_first b_last b_none b_set b_leads b_apart b_state b_to b_look b_begins b_nullable b_act b_built b_leadTo b_text f tk b_stack b_worth := by
  have htl : ∀ i, nv b_text i < 4 := fun i => by
    obtain ⟨l, hl, el⟩ := htx i
    unfold nv; rw [el, nI_clamp (by omega)]; exact hl
  intro d
  induction d with
  | zero =>
    intro a cn p b e f tk ha hd hcn htk hz
    subst hz
    refine pk_le n a (fun _ => H (-1) f tk ⟨rfl, fun y => ?_, fun _ => rfl, htk⟩) (fun y => absurd y (by omega))
    have : a < n := y
    omega
  | succ d ih =>
    intro a cn p b e f tk ha hd hcn htk hz
    unfold ct at hz
    refine pk_le n a (fun c => ?_) (fun c => br_f (by decide) ⟨5, ?_⟩)
    · rw [if_pos c] at hz
      subst hz
      refine H (-1) f tk ⟨rfl, fun y => ?_, fun _ => rfl, htk⟩
      have : a < n := y
      omega
    · rw [if_neg (by omega)] at hz
      have hmx := mx_s hs htl (n := n) (a := a) ha
      generalize mx st ma (nv b_text) n a = r at hz hmx
      refine ys_47 (b_token := tk) (cn := cn) c hn htx hs.1 hs.2.1 (by omega) (fun hno f' => ?_) (fun q e' hq hms he1 he2 f' => ?_) 4 0 0 (-1) f (by omega) (Or.inl ⟨rfl, fun p hp => absurd hp (by omega)⟩) ⟨fun _ => rfl, fun _ => rfl⟩
      · have e1 : r.2 = -1 := (ms_u hmx (Or.inl ⟨rfl, hno⟩ : msp _ _ _ a n 4 0 (-1))).1
        rw [if_pos e1] at hz
        subst hz
        refine br_f (nI_ge c (by omega)) (br_t (nI_pos' (by omega)) (H (nI a) f' tk ⟨rfl, fun _ => rfl, fun y => ?_, htk⟩))
        have : n ≤ a := y
        omega
      · obtain ⟨u1, u2⟩ := ms_u hmx hms
        have hne : ¬ r.2 = -1 := by rw [u1]; exact zn_ne1 (by omega)
        have u3 := u2.resolve_left hne
        rw [if_neg hne, u1, u3, nI_clamp (by omega)] at hz
        refine ⟨fun c1 => ?_, fun c1 => ?_⟩
        · rw [if_pos (by rw [← hsk q hq]; exact c1)] at hz
          refine ih e' (cn + 1) _ _ _ f' _ he2 (by omega) (by omega) ?_ hz
          intro k hk
          by_cases ek : k = cn
          · subst ek
            exact ⟨by rw [pk_un (by omega), pk_un (by omega), pk_us, pk_us], by rw [pk_un (by omega), pk_us, pk_us], by rw [pk_us, pk_us]⟩
          · rw [pk_un (by omega), pk_un (by omega), pk_un (by omega), pk_un (show 3 * k + 1 ≠ 3 * cn + 2 by omega), pk_un (show 3 * k + 1 ≠ 3 * cn + 1 by omega), pk_un (show 3 * k + 1 ≠ 3 * cn by omega), pk_un (show 3 * k + 2 ≠ 3 * cn + 2 by omega), pk_un (show 3 * k + 2 ≠ 3 * cn + 1 by omega), pk_un (show 3 * k + 2 ≠ 3 * cn by omega), pk_un ek, pk_un ek, pk_un ek]
            exact htk k (by omega)
        · rw [if_neg (by rw [← hsk q hq]; exact c1)] at hz
          exact ih e' cn _ _ _ f' _ he2 (by omega) (by omega) htk hz
theorem ys_ {n : Nat} {st ma sk : Nat → Int32} (hn : n ≤ 20) (htx : ∀ k, ∃ l, l < 4 ∧ b_text k = nI l) (hs : sc_ok st ma b_bTerm b_bSize) (hsk : ∀ r, r < 4 → b_bSkipped r = sk r) {z : Nat × Nat × (Nat → Int32) × (Nat → Int32) × (Nat → Int32)} (hz : cz st ma sk (nv b_text) n = z)
    (hsd : g_scanned = 0 ∨ tk_ok z n g_tokens g_stuck b_token)
    (H : ∀ (su sd : Int32) (f tk : Nat → Int32), tk_ok z n (nI z.2.1) su tk → post (g_productions, g_start, g_sets, g_states, g_conflicts, g_ready, nI n, nI z.2.1, su, sd, g_value, g_place, b_term, b_size, b_skipped, b_left, b_right, b_width, b_op, b_constant, b_rank, b_grouping, b_bTerm, b_bSize, b_bSkipped, b_bLeft, b_bWidth, b_bOp, b_bConstant, b_follow, b_ends, b_first, b_last, b_none, b_set, b_leads, b_apart, b_state, b_to, b_look, b_begins, b_nullable, b_act, b_built, b_leadTo, b_text, f, tk, b_stack, b_worth)) : wpY_scan post (g_productions, g_start, g_sets, g_states, g_conflicts, g_ready, nI n, g_tokens, g_stuck, g_scanned, g_value, g_place, b_term, b_size, b_skipped, b_left, b_right, b_width, b_op, b_constant, b_rank, b_grouping, b_bTerm, b_bSize, b_bSkipped, b_bLeft, b_bWidth, b_bOp, b_bConstant, b_follow, b_ends, b_first, b_last, b_none, b_set, b_leads, b_apart, b_state, b_to, b_look, b_begins, b_nullable, b_act, b_built, b_leadTo, b_text, b_fits, b_token, b_stack, b_worth) := by
  by_cases c : g_scanned = 0
  · refine br_t c ⟨22, ys_25 hn htx hs hsk (fun su f tk h => H su 1 f tk h) 20 0 0 _ _ _ b_fits b_token (by omega) (by omega) (by omega) (fun k hk => absurd hk (by omega)) hz⟩
  · refine br_f c ?_
    have h := hsd.resolve_left c
    have := H g_stuck g_scanned b_fits b_token ⟨rfl, h.2⟩
    rw [← h.1] at this
    exact this
end
end
section
/-! tokens and token -/
def nuF (tx : Nat → Int32) : Nat → Nat → Int32 → Int32
  | 0, _, a => a
  | d + 1, i, a => nuF tx d (i + 1) (a * 4 + tx i)
section
variable {f_productionCount f_textLength f_anythingBuilt f_tokenCount f_parseValue f_parsePlace : Int32} {a_ruleTerms a_ruleLengths a_skips a_grammar a_ranks a_groupings a_text a_heads a_tails a_empties a_placeLetters a_followers a_ruleEnds : Nat → Int32} {a_sets : Nat → Int64} {a_steps a_classes a_finerClasses : Nat → Int32} {a_states : Nat → Int64} {a_moves a_begins a_lookaheads a_builtCounts a_builtSteps a_builtMatches a_builtSkips a_builtGrammar a_builtMoves a_builtActions a_tokenRules a_tokenBegins a_tokenEnds a_stackStates a_stackValues : Nat → Int32} {post : Int32 → Prop}
theorem xn_9 {k j : Nat} (hk : k < 20) (hj : j ≤ 20) (ej : a_tokenEnds k = nI j) : ∀ d i a, i + d = j → post (nuF a_text d i a) → wX_numberOfToken_9 post (nI k) f_productionCount f_textLength f_anythingBuilt f_tokenCount f_parseValue f_parsePlace a_ruleTerms a_ruleLengths a_skips a_grammar a_ranks a_groupings a_text a_heads a_tails a_empties a_placeLetters a_followers a_ruleEnds a_sets a_steps a_classes a_finerClasses a_states a_moves a_begins a_lookaheads a_builtCounts a_builtSteps a_builtMatches a_builtSkips a_builtGrammar a_builtMoves a_builtActions a_tokenRules a_tokenBegins a_tokenEnds a_stackStates a_stackValues (d + 1) a (nI i) := by
  have ck : (nI k).toNatClampNeg = k := nI_clamp (by omega)
  intro d
  induction d with
  | zero =>
    intro i a hi H
    refine pk_le 20 i (fun _ => H) (fun _ => ⟨vp_in_nI hk (by omega), ?_⟩)
    rw [ck, ej]
    exact pk_le j i (fun _ => H) (fun z => absurd z (by omega))
  | succ d ih =>
    intro i a hi H
    refine pk_le 20 i (fun z => absurd z (by omega)) (fun _ => ⟨vp_in_nI hk (by omega), ?_⟩)
    rw [ck, ej]
    refine pk_le j i (fun z => absurd z (by omega)) (fun _ => ⟨vp_in_nI (by omega) (by omega), ?_⟩)
    rw [nI_clamp (show i < 2 ^ 31 by omega)]
    exact nm_e (nm_r (nI_1 i) (ih (i + 1) _ (by omega) H))
theorem xn_ {k i j : Nat} (hk : k < 20) (hij : i ≤ j) (hj : j ≤ 20) (ei : a_tokenBegins k = nI i) (ej : a_tokenEnds k = nI j) (H : post (nuF a_text (j - i) i 0)) : wpX_numberOfToken post (f_productionCount, f_textLength, f_anythingBuilt, f_tokenCount, f_parseValue, f_parsePlace, a_ruleTerms, a_ruleLengths, a_skips, a_grammar, a_ranks, a_groupings, a_text, a_heads, a_tails, a_empties, a_placeLetters, a_followers, a_ruleEnds, a_sets, a_steps, a_classes, a_finerClasses, a_states, a_moves, a_begins, a_lookaheads, a_builtCounts, a_builtSteps, a_builtMatches, a_builtSkips, a_builtGrammar, a_builtMoves, a_builtActions, a_tokenRules, a_tokenBegins, a_tokenEnds, a_stackStates, a_stackValues) (nI k) := by
  refine ⟨vp_in_nI hk (by omega), ?_⟩
  rw [nI_clamp (show k < 2 ^ 31 by omega), ei]
  exact nm_e ⟨j - i + 1, xn_9 hk hj ej (j - i) i 0 (by omega) H⟩
end
section
variable {g_productions : Int32} {g_start : Int64} {g_sets g_states g_conflicts g_ready g_length g_tokens g_stuck g_scanned g_value g_place : Int32} {b_term b_size b_skipped b_left b_right b_width b_op b_constant b_rank b_grouping b_bTerm b_bSize b_bSkipped b_bLeft b_bWidth b_bOp b_bConstant : Nat → Int32} {b_follow b_ends b_first b_last : Nat → Int64} {b_none : Nat → Int32} {b_set : Nat → Int64} {b_leads b_apart : Nat → Int32} {b_state : Nat → Int64} {b_to b_look b_begins b_nullable b_act b_built b_leadTo b_text b_fits b_token b_stack b_worth : Nat → Int32} {post : Int32 → Prop}
theorem yn_13 {k j : Nat} (hk : k < 20) (hj : j ≤ 20) (ej : b_token (3 * k + 2) = nI j) : ∀ d i a, i + d = j → post (nuF b_text d i a) → wY_number_13 post (nI k) g_productions g_start g_sets g_states g_conflicts g_ready g_length g_tokens g_stuck g_scanned g_value g_place b_term b_size b_skipped b_left b_right b_width b_op b_constant b_rank b_grouping b_bTerm b_bSize b_bSkipped b_bLeft b_bWidth b_bOp b_bConstant b_follow b_ends b_first b_last b_none b_set b_leads b_apart b_state b_to b_look b_begins b_nullable b_act b_built b_leadTo b_text b_fits b_token b_stack b_worth (d + 1) a (nI i) := by
  have ck : 3 * nI k + 2 = nI (3 * k + 2) := by rw [show (3 : Int32) = nI 3 from rfl, show (2 : Int32) = nI 2 from rfl, pk_mul, nI_add]
  intro d
  induction d with
  | zero =>
    intro i a hi H
    refine ⟨by rw [ck]; exact vp_in_nI (by omega) (by omega), ?_⟩
    rw [ck, nI_clamp (by omega), ej]
    exact pk_le j i (fun _ => H) (fun z => absurd z (by omega))
  | succ d ih =>
    intro i a hi H
    refine ⟨by rw [ck]; exact vp_in_nI (by omega) (by omega), ?_⟩
    rw [ck, nI_clamp (by omega), ej]
    refine pk_le j i (fun z => absurd z (by omega)) (fun _ => ⟨vp_in_nI (by omega) (by omega), ?_⟩)
    rw [nI_clamp (show i < 2 ^ 31 by omega)]
    exact nm_r (by rw [Int32.mul_comm]) (nm_r (nI_1 i) (ih (i + 1) _ (by omega) H))
theorem yn_ {k i j : Nat} (hk : k < 20) (hij : i ≤ j) (hj : j ≤ 20) (ei : b_token (3 * k + 1) = nI i) (ej : b_token (3 * k + 2) = nI j) (H : post (nuF b_text (j - i) i 0)) : wpY_number post (g_productions, g_start, g_sets, g_states, g_conflicts, g_ready, g_length, g_tokens, g_stuck, g_scanned, g_value, g_place, b_term, b_size, b_skipped, b_left, b_right, b_width, b_op, b_constant, b_rank, b_grouping, b_bTerm, b_bSize, b_bSkipped, b_bLeft, b_bWidth, b_bOp, b_bConstant, b_follow, b_ends, b_first, b_last, b_none, b_set, b_leads, b_apart, b_state, b_to, b_look, b_begins, b_nullable, b_act, b_built, b_leadTo, b_text, b_fits, b_token, b_stack, b_worth) (nI k) := by
  have ck : 3 * nI k + 1 = nI (3 * k + 1) := by rw [show (3 : Int32) = nI 3 from rfl, pk_mul, nI_1]
  refine ⟨by rw [ck]; exact vp_in_nI (by omega) (by omega), ?_⟩
  rw [ck, nI_clamp (by omega), ei]
  exact nm_e ⟨j - i + 1, yn_13 hk hj ej (j - i) i 0 (by omega) H⟩
end
/-- what both sides have of the tokens -/
theorem tk_both {st ma sk bT bS : Nat → Int32} {tl : Nat → Nat} {n : Nat} {p b e : Nat → Int32} (hs : sc_ok st ma bT bS) (htl : ∀ i, tl i < 4) {z : Nat × Nat × (Nat → Int32) × (Nat → Int32) × (Nat → Int32)} (hz : ct st ma sk tl n 20 (0, 0, p, b, e) = z) :
    z.1 = (cz st ma sk tl n).1 ∧ z.2.1 = (cz st ma sk tl n).2.1 ∧ z.1 ≤ n ∧ z.2.1 ≤ 20 ∧ ∀ k, k < z.2.1 → z.2.2.1 k = (cz st ma sk tl n).2.2.1 k ∧ z.2.2.2.1 k = (cz st ma sk tl n).2.2.2.1 k ∧ z.2.2.2.2 k = (cz st ma sk tl n).2.2.2.2 k ∧
      (∃ r, r < 4 ∧ z.2.2.1 k = nI r) ∧ ∃ i j, i ≤ j ∧ j ≤ n ∧ z.2.2.2.1 k = nI i ∧ z.2.2.2.2 k = nI j := by
  obtain ⟨-, -, c, hc0, hc, hst, hma, -⟩ := hs
  obtain ⟨h1, h2, h3⟩ := ct_eq (st := st) (ma := ma) (sk := sk) (tl := tl) (n := n) 20 0 0 p b e (fun _ => 0) (fun _ => 0) (fun _ => 0) (fun k hk => absurd hk (by omega))
  obtain ⟨k1, k2, k3⟩ := ct_in (sk := sk) hc0 hc hst hma htl (n := n) 20 0 0 p b e (by omega) (fun k hk => absurd hk (by omega))
  rw [hz] at h1 h2 h3 k1 k2 k3
  exact ⟨h1, h2, k1, by omega, fun k hk => ⟨(h3 k hk).1, (h3 k hk).2.1, (h3 k hk).2.2, (k3 k hk).1, (k3 k hk).2⟩⟩
theorem nv_l {tx : Nat → Int32} (h : ∀ k, ∃ l, l < 4 ∧ tx k = nI l) (i : Nat) : nv tx i < 4 := by
  obtain ⟨l, hl, el⟩ := h i
  unfold nv; rw [el, nI_clamp (by omega)]; exact hl
theorem i_vc_tokens {k : Nat} {u : SX} {v : SY} (I : i_Rel k u v) (hk : k + 5 ≤ 2560) : wpX_tokens (fun r u' => wpY_tokens (fun r' v' => r' = r ∧ i_Rel (k + 5) u' v') v) u := by
  obtain ⟨f_productionCount, f_textLength, f_anythingBuilt, f_tokenCount, f_parseValue, f_parsePlace, a_ruleTerms, a_ruleLengths, a_skips, a_grammar, a_ranks, a_groupings, a_text, a_heads, a_tails, a_empties, a_placeLetters, a_followers, a_ruleEnds, a_sets, a_steps, a_classes, a_finerClasses, a_states, a_moves, a_begins, a_lookaheads, a_builtCounts, a_builtSteps, a_builtMatches, a_builtSkips, a_builtGrammar, a_builtMoves, a_builtActions, a_tokenRules, a_tokenBegins, a_tokenEnds, a_stackStates, a_stackValues⟩ := u
  obtain ⟨g_productions, g_start, g_sets, g_states, g_conflicts, g_ready, g_length, g_tokens, g_stuck, g_scanned, g_value, g_place, b_term, b_size, b_skipped, b_left, b_right, b_width, b_op, b_constant, b_rank, b_grouping, b_bTerm, b_bSize, b_bSkipped, b_bLeft, b_bWidth, b_bOp, b_bConstant, b_follow, b_ends, b_first, b_last, b_none, b_set, b_leads, b_apart, b_state, b_to, b_look, b_begins, b_nullable, b_act, b_built, b_leadTo, b_text, b_fits, b_token, b_stack, b_worth⟩ := v
  have I0 := I
  obtain ⟨rfl, rfl, rfl, rfl, rfl, rfl, rfl, rfl, hr, hg, ht, hb⟩ := I
  unfold wpX_tokens wpY_tokens
  dsimp only
  rcases hb with ⟨rfl, rfl⟩ | ⟨rfl, rfl, hcn, hsk, hs, hp, hsd⟩
  · exact br_t rfl (br_t rfl ⟨rfl, I0⟩)
  obtain ⟨n, hn, rfl, rfl, hl⟩ := ht
  rw [nI_clamp (by omega)] at hsd
  refine br_f (by decide) (xc_cut hn hs hl rfl ?_)
  generalize hz : ct a_builtSteps a_builtMatches a_builtSkips (nv a_text) n 20 (0, 0, a_tokenRules, a_tokenBegins, a_tokenEnds) = z
  obtain ⟨z1, z2, -⟩ := tk_both hs (nv_l hl) hz
  dsimp only
  refine br_f (by decide) (ys_ hn hl hs hsk rfl hsd (fun su sd f tk h => ⟨by rw [z2], rl_mk rfl rfl rfl rfl rfl rfl rfl rfl hr hg ⟨n, hn, rfl, rfl, hl⟩ (Or.inr ⟨rfl, rfl, hcn, hsk, hs, hp, Or.inr ?_⟩)⟩))
  rw [nI_clamp (by omega)]
  exact h
theorem i_vc_token {k : Nat} {u : SX} {v : SY} (I : i_Rel k u v) (hk : k + 5 ≤ 2560) (v1 : Int32) (v2 : Int32) : wpX_token (fun r u' => wpY_token (fun r' v' => r' = r ∧ i_Rel (k + 5) u' v') v v1 v2) u v1 v2 := by
  obtain ⟨f_productionCount, f_textLength, f_anythingBuilt, f_tokenCount, f_parseValue, f_parsePlace, a_ruleTerms, a_ruleLengths, a_skips, a_grammar, a_ranks, a_groupings, a_text, a_heads, a_tails, a_empties, a_placeLetters, a_followers, a_ruleEnds, a_sets, a_steps, a_classes, a_finerClasses, a_states, a_moves, a_begins, a_lookaheads, a_builtCounts, a_builtSteps, a_builtMatches, a_builtSkips, a_builtGrammar, a_builtMoves, a_builtActions, a_tokenRules, a_tokenBegins, a_tokenEnds, a_stackStates, a_stackValues⟩ := u
  obtain ⟨g_productions, g_start, g_sets, g_states, g_conflicts, g_ready, g_length, g_tokens, g_stuck, g_scanned, g_value, g_place, b_term, b_size, b_skipped, b_left, b_right, b_width, b_op, b_constant, b_rank, b_grouping, b_bTerm, b_bSize, b_bSkipped, b_bLeft, b_bWidth, b_bOp, b_bConstant, b_follow, b_ends, b_first, b_last, b_none, b_set, b_leads, b_apart, b_state, b_to, b_look, b_begins, b_nullable, b_act, b_built, b_leadTo, b_text, b_fits, b_token, b_stack, b_worth⟩ := v
  have I0 := I
  obtain ⟨rfl, rfl, rfl, rfl, rfl, rfl, rfl, rfl, hr, hg, ht, hb⟩ := I
  unfold wpX_token wpY_token wpY_tokens
  dsimp only
  rcases hb with ⟨rfl, rfl⟩ | ⟨rfl, rfl, hcn, hsk, hs, hp, hsd⟩
  · refine br_t rfl (br_t rfl (am_f ?_ (br_t rfl ⟨rfl, I0⟩)))
    by_cases c : v1 < 0
    · exact Or.inl c
    · exact Or.inr (Int32.le_trans (by decide) (Int32.not_lt.mp c))
  obtain ⟨n, hn, rfl, rfl, hl⟩ := ht
  rw [nI_clamp (by omega)] at hsd
  refine br_f (by decide) (xc_cut hn hs hl rfl ?_)
  generalize hz : ct a_builtSteps a_builtMatches a_builtSkips (nv a_text) n 20 (0, 0, a_tokenRules, a_tokenBegins, a_tokenEnds) = z
  obtain ⟨z1, z2, z3, z4, z5⟩ := tk_both hs (nv_l hl) hz
  dsimp only
  have fin : ∀ (su sd : Int32) (f tk : Nat → Int32) (tr tb te : Nat → Int32) (tc : Int32), tk_ok (cz a_builtSteps a_builtMatches a_builtSkips (nv a_text) n) n (nI (cz a_builtSteps a_builtMatches a_builtSkips (nv a_text) n).2.1) su tk →
      i_Rel (k + 5) (f_productionCount, nI n, 1, tc, f_parseValue, f_parsePlace, a_ruleTerms, a_ruleLengths, a_skips, a_grammar, a_ranks, a_groupings, a_text, a_heads, a_tails, a_empties, a_placeLetters, a_followers, a_ruleEnds, a_sets, a_steps, a_classes, a_finerClasses, a_states, a_moves, a_begins, a_lookaheads, a_builtCounts, a_builtSteps, a_builtMatches, a_builtSkips, a_builtGrammar, a_builtMoves, a_builtActions, tr, tb, te, a_stackStates, a_stackValues) (g_productions, g_start, g_sets, g_states, g_conflicts, 1, nI n, nI (cz a_builtSteps a_builtMatches a_builtSkips (nv a_text) n).2.1, su, sd, f_parseValue, f_parsePlace, a_ruleTerms, a_ruleLengths, a_skips, b_left, b_right, b_width, b_op, b_constant, a_ranks, a_groupings, b_bTerm, b_bSize, b_bSkipped, b_bLeft, b_bWidth, b_bOp, b_bConstant, b_follow, b_ends, b_first, b_last, b_none, b_set, b_leads, b_apart, b_state, b_to, b_look, b_begins, b_nullable, b_act, b_built, b_leadTo, a_text, f, tk, b_stack, b_worth) := by
    intro su sd f tk tr tb te tc h
    refine rl_mk rfl rfl rfl rfl rfl rfl rfl rfl hr hg ⟨n, hn, rfl, rfl, hl⟩ (Or.inr ⟨rfl, rfl, hcn, hsk, hs, hp, Or.inr ?_⟩)
    rw [nI_clamp (by omega)]
    exact h
  rcases zn_bel v1 (n := z.2.1) (by omega) with h1 | ⟨j, hj, rfl⟩
  · refine ib_f h1 (br_t rfl (br_f (by decide) (ys_ hn hl hs hsk rfl hsd (fun su sd f tk h => ?_))))
    rw [z2] at h1
    exact am_f h1 (br_t rfl ⟨rfl, fin su sd f tk _ _ _ _ h⟩)
  obtain ⟨q1, q2, q3, ⟨r, hr4, q4⟩, i, e, hie, hen, q5, q6⟩ := z5 j hj
  refine ib_t j z.2.1 hj (br_f (by decide) ?_)
  rcases zn_bel v2 (n := 4) (by omega) with h2 | ⟨w, hw, rfl⟩
  · have yy : wpY_token (fun r' v' => r' = -1 ∧ i_Rel (k + 5) (f_productionCount, nI n, 1, nI z.2.1, f_parseValue, f_parsePlace, a_ruleTerms, a_ruleLengths, a_skips, a_grammar, a_ranks, a_groupings, a_text, a_heads, a_tails, a_empties, a_placeLetters, a_followers, a_ruleEnds, a_sets, a_steps, a_classes, a_finerClasses, a_states, a_moves, a_begins, a_lookaheads, a_builtCounts, a_builtSteps, a_builtMatches, a_builtSkips, a_builtGrammar, a_builtMoves, a_builtActions, z.2.2.1, z.2.2.2.1, z.2.2.2.2, a_stackStates, a_stackValues) v') (g_productions, g_start, g_sets, g_states, g_conflicts, 1, nI n, g_tokens, g_stuck, g_scanned, f_parseValue, f_parsePlace, a_ruleTerms, a_ruleLengths, a_skips, b_left, b_right, b_width, b_op, b_constant, a_ranks, a_groupings, b_bTerm, b_bSize, b_bSkipped, b_bLeft, b_bWidth, b_bOp, b_bConstant, b_follow, b_ends, b_first, b_last, b_none, b_set, b_leads, b_apart, b_state, b_to, b_look, b_begins, b_nullable, b_act, b_built, b_leadTo, a_text, b_fits, b_token, b_stack, b_worth) (nI j) v2 := by
      unfold wpY_token wpY_tokens
      dsimp only
      refine br_f (by decide) (ys_ hn hl hs hsk rfl hsd (fun su sd f tk h => ?_))
      rw [← z2]
      refine am_t j z.2.1 hj (br_f (by decide) (am_f h2 (br_t rfl ⟨rfl, ?_⟩)))
      rw [z2]
      have := fin su sd f tk z.2.2.1 z.2.2.2.1 z.2.2.2.2 (nI z.2.1) h
      rw [z2] at this
      exact this
    rcases h2 with h2 | h2
    · exact br_t h2 yy
    · refine br_c (fun _ => yy) (fun _ => br_t (Int32.lt_of_lt_of_le (by decide) h2) yy)
  · have yy : ∀ x, (w = 0 → x = nI r) → (w = 1 → x = nI i) → (w = 2 → x = nI e) → (w = 3 → x = nuF a_text (e - i) i 0) →
        wpY_token (fun r' v' => r' = x ∧ i_Rel (k + 5) (f_productionCount, nI n, 1, nI z.2.1, f_parseValue, f_parsePlace, a_ruleTerms, a_ruleLengths, a_skips, a_grammar, a_ranks, a_groupings, a_text, a_heads, a_tails, a_empties, a_placeLetters, a_followers, a_ruleEnds, a_sets, a_steps, a_classes, a_finerClasses, a_states, a_moves, a_begins, a_lookaheads, a_builtCounts, a_builtSteps, a_builtMatches, a_builtSkips, a_builtGrammar, a_builtMoves, a_builtActions, z.2.2.1, z.2.2.2.1, z.2.2.2.2, a_stackStates, a_stackValues) v') (g_productions, g_start, g_sets, g_states, g_conflicts, 1, nI n, g_tokens, g_stuck, g_scanned, f_parseValue, f_parsePlace, a_ruleTerms, a_ruleLengths, a_skips, b_left, b_right, b_width, b_op, b_constant, a_ranks, a_groupings, b_bTerm, b_bSize, b_bSkipped, b_bLeft, b_bWidth, b_bOp, b_bConstant, b_follow, b_ends, b_first, b_last, b_none, b_set, b_leads, b_apart, b_state, b_to, b_look, b_begins, b_nullable, b_act, b_built, b_leadTo, a_text, b_fits, b_token, b_stack, b_worth) (nI j) (nI w) := by
      intro x x0 x1 x2 x3
      unfold wpY_token wpY_tokens
      dsimp only
      refine br_f (by decide) (ys_ hn hl hs hsk rfl hsd (fun su sd f tk h => ?_))
      obtain ⟨t1, t2, t3⟩ := h.2.2.2 j (by rw [← z2]; exact hj)
      rw [← q1, q4] at t1
      rw [← q2, q5] at t2
      rw [← q3, q6] at t3
      have fi := fin su sd f tk z.2.2.1 z.2.2.2.1 z.2.2.2.2 (nI z.2.1) h
      rw [← z2]
      rw [← z2] at fi
      refine am_t j z.2.1 hj (br_f (by decide) (am_t w 4 hw (br_f (by decide) (pk_eq w 3 (fun c => ?_) (fun c => ?_)))))
      · exact yn_ (by omega) hie (by omega) t2 t3 ⟨(x3 c).symm, fi⟩
      · have ej : 3 * nI j + nI w = nI (3 * j + w) := by rw [show (3 : Int32) = nI 3 from rfl, pk_mul, nI_add]
        rw [ej, nI_clamp (by omega)]
        refine ⟨vp_in_nI (by omega) (by omega), ?_, fi⟩
        have hw3 : w = 0 ∨ w = 1 ∨ w = 2 := by omega
        rcases hw3 with c | c | c
        · rw [c]; exact t1.trans (x0 c).symm
        · rw [c]; exact t2.trans (x1 c).symm
        · rw [c]; exact t3.trans (x2 c).symm
    have ij : vp_in (nI j) 20 := vp_in_nI (by omega) (by omega)
    refine br_f (nI_pos (by omega)) (br_f (nI_nlt (a := 3) (by omega) (by omega)) ?_)
    rw [nI_clamp (show j < 2 ^ 31 by omega)]
    refine pk_eq w 0 (fun c => ⟨ij, yy _ (fun _ => q4) (fun z => by omega) (fun z => by omega) (fun z => by omega)⟩) (fun c0 => pk_eq w 1 (fun c => ⟨ij, yy _ (fun z => by omega) (fun _ => q5) (fun z => by omega) (fun z => by omega)⟩) (fun c1 => pk_eq w 2 (fun c => ⟨ij, yy _ (fun z => by omega) (fun z => by omega) (fun _ => q6) (fun z => by omega)⟩) (fun c2 => pk_eq w 3 (fun c => ?_) (fun c3 => by omega))))
    exact xn_ (by omega) hie (by omega) q5 q6 (yy _ (fun z => by omega) (fun z => by omega) (fun z => by omega) (fun _ => rfl))
end
section
/-! parse: helpers of both sides -/
def twO (b : Nat → Bool) : Nat → Int32
  | 0 => 0
  | t + 1 => if b t then twO b t ||| ((1 : Int32) <<< (nI t &&& 31)) else twO b t
def twA (b : Nat → Bool) (a : Int32) : Nat → Int32
  | 0 => a
  | t + 1 => if b t then twA b a t + ((1 : Int32) <<< (nI t &&& 31)) else twA b a t
theorem tw_a (b : Nat → Bool) (a : Int32) : ∀ t, twA b a t = a + twA b 0 t
  | 0 => by show a = a + 0; rw [Int32.add_zero]
  | t + 1 => by
    unfold twA
    rw [tw_a b a t]
    split
    · rw [Int32.add_assoc]
    · rfl
theorem tw_5 : ∀ b0 b1 b2 b3 b4 : Bool, twA (fun t => match t with | 0 => b0 | 1 => b1 | 2 => b2 | 3 => b3 | _ => b4) 0 5 = twO (fun t => match t with | 0 => b0 | 1 => b1 | 2 => b2 | 3 => b3 | _ => b4) 5 := by decide
theorem tw_e (b : Nat → Bool) (a : Int32) : twA b a 5 = a + twO b 5 := by
  rw [tw_a]
  have h := tw_5 (b 0) (b 1) (b 2) (b 3) (b 4)
  congr 1
section
variable {f_productionCount f_textLength f_anythingBuilt f_tokenCount f_parseValue f_parsePlace : Int32} {a_ruleTerms a_ruleLengths a_skips a_grammar a_ranks a_groupings a_text a_heads a_tails a_empties a_placeLetters a_followers a_ruleEnds : Nat → Int32} {a_sets : Nat → Int64} {a_steps a_classes a_finerClasses : Nat → Int32} {a_states : Nat → Int64} {a_moves a_begins a_lookaheads a_builtCounts a_builtSteps a_builtMatches a_builtSkips a_builtGrammar a_builtMoves a_builtActions a_tokenRules a_tokenBegins a_tokenEnds a_stackStates a_stackValues : Nat → Int32} {post : Int32 → Prop}
theorem xt_4 {s : Nat} (hs : s < 40) : ∀ d t, t + d = 5 → post (twO (fun t => !(a_builtActions (5 * s + t) == -1)) 5) → wX_terminalsWithAction_4 post (nI s) f_productionCount f_textLength f_anythingBuilt f_tokenCount f_parseValue f_parsePlace a_ruleTerms a_ruleLengths a_skips a_grammar a_ranks a_groupings a_text a_heads a_tails a_empties a_placeLetters a_followers a_ruleEnds a_sets a_steps a_classes a_finerClasses a_states a_moves a_begins a_lookaheads a_builtCounts a_builtSteps a_builtMatches a_builtSkips a_builtGrammar a_builtMoves a_builtActions a_tokenRules a_tokenBegins a_tokenEnds a_stackStates a_stackValues (d + 1) (twO (fun t => !(a_builtActions (5 * s + t) == -1)) t) (nI t) := by
  intro d
  induction d with
  | zero =>
    intro t ht H
    have : t = 5 := by omega
    subst this
    exact pk_le 5 5 (fun _ => H) (fun z => absurd z (by omega))
  | succ d ih =>
    intro t ht H
    have ei : nI s * 5 + nI t = nI (5 * s + t) := by rw [show (5 : Int32) = nI 5 from rfl, pk_mul, nI_add]; congr 1; omega
    refine pk_le 5 t (fun z => absurd z (by omega)) (fun _ => ?_)
    rw [ei, nI_clamp (by omega)]
    refine ⟨vp_in_nI (by omega) (by omega), ?_⟩
    have ih' := ih (t + 1) (by omega) H
    by_cases c : a_builtActions (5 * s + t) = -1
    · refine br_t c (nm_r (nI_1 t) ?_)
      rw [twO] at ih'
      simp only [c, beq_self_eq_true, Bool.not_true] at ih'
      exact ih'
    · refine br_f c (nm_e (nm_r (nI_1 t) ?_))
      rw [twO] at ih'
      simp only [beq_eq_false_iff_ne.mpr c, Bool.not_false, if_true] at ih'
      exact ih'
theorem xt_ {s : Nat} (hs : s < 40) (H : post (twO (fun t => !(a_builtActions (5 * s + t) == -1)) 5)) : wpX_terminalsWithAction post (f_productionCount, f_textLength, f_anythingBuilt, f_tokenCount, f_parseValue, f_parsePlace, a_ruleTerms, a_ruleLengths, a_skips, a_grammar, a_ranks, a_groupings, a_text, a_heads, a_tails, a_empties, a_placeLetters, a_followers, a_ruleEnds, a_sets, a_steps, a_classes, a_finerClasses, a_states, a_moves, a_begins, a_lookaheads, a_builtCounts, a_builtSteps, a_builtMatches, a_builtSkips, a_builtGrammar, a_builtMoves, a_builtActions, a_tokenRules, a_tokenBegins, a_tokenEnds, a_stackStates, a_stackValues) (nI s) := ⟨6, xt_4 hs 5 0 (by omega) H⟩
end
def sF (v : Nat → Int32) (f : Nat) : Nat → Int32
  | 0 => 0
  | i + 1 => sF v f i + v (f + i)
def pF (v : Nat → Int32) (f : Nat) : Nat → Int32
  | 0 => 1
  | i + 1 => pF v f i * v (f + i)
def vX (v : Nat → Int32) (f o n : Nat) (c : Int32) : Int32 :=
  if o = 0 then c + sF v f n else if o = 1 then c + pF v f n else if o = 2 then (if n = 0 then c else v f * 2 - sF v f n + c) else (if 2 ≤ n then v (f + 1) + c else c)
section
variable {f_productionCount f_textLength f_anythingBuilt f_tokenCount f_parseValue f_parsePlace : Int32} {a_ruleTerms a_ruleLengths a_skips a_grammar a_ranks a_groupings a_text a_heads a_tails a_empties a_placeLetters a_followers a_ruleEnds : Nat → Int32} {a_sets : Nat → Int64} {a_steps a_classes a_finerClasses : Nat → Int32} {a_states : Nat → Int64} {a_moves a_begins a_lookaheads a_builtCounts a_builtSteps a_builtMatches a_builtSkips a_builtGrammar a_builtMoves a_builtActions a_tokenRules a_tokenBegins a_tokenEnds a_stackStates a_stackValues : Nat → Int32} {post : Int32 → Prop}
theorem xv_35 {p f n o : Nat} {c : Int32} (hp : p < 8) (hf : 1 ≤ f) (hn : n ≤ 3) (hfn : f + n ≤ 151) (ho : o < 4) (eo : a_builtGrammar (7 * p + 5) = nI o) (H : post (vX a_stackValues f o n c)) :
    ∀ d i, i + d = n → wX_valueOfReduce_35 post (nI f) (nI (7 * p)) (nI n) c f_productionCount f_textLength f_anythingBuilt f_tokenCount f_parseValue f_parsePlace a_ruleTerms a_ruleLengths a_skips a_grammar a_ranks a_groupings a_text a_heads a_tails a_empties a_placeLetters a_followers a_ruleEnds a_sets a_steps a_classes a_finerClasses a_states a_moves a_begins a_lookaheads a_builtCounts a_builtSteps a_builtMatches a_builtSkips a_builtGrammar a_builtMoves a_builtActions a_tokenRules a_tokenBegins a_tokenEnds a_stackStates a_stackValues (d + 1) (sF a_stackValues f i) (pF a_stackValues f i) (nI i) := by
  have e5 : nI (7 * p) + 5 = nI (7 * p + 5) := nI_add _ 5
  have fin : wX_valueOfReduce_82 post (nI f) (nI (7 * p)) (nI n) c (sF a_stackValues f n) (pF a_stackValues f n) f_productionCount f_textLength f_anythingBuilt f_tokenCount f_parseValue f_parsePlace a_ruleTerms a_ruleLengths a_skips a_grammar a_ranks a_groupings a_text a_heads a_tails a_empties a_placeLetters a_followers a_ruleEnds a_sets a_steps a_classes a_finerClasses a_states a_moves a_begins a_lookaheads a_builtCounts a_builtSteps a_builtMatches a_builtSkips a_builtGrammar a_builtMoves a_builtActions a_tokenRules a_tokenBegins a_tokenEnds a_stackStates a_stackValues := by
    unfold wX_valueOfReduce_82
    rw [e5, nI_clamp (by omega), eo]
    refine ⟨vp_in_nI (by omega) (by omega), nm_e (br_f (nI_pos (by omega)) ?_)⟩
    unfold vX at H
    have ef : nI f + 1 = nI (f + 1) := nI_1 f
    rw [ef]
    refine pk_lt 2 o (fun h => ?_) (fun h => pk_eq o 0 (fun h0 => ?_) (fun h0 => pk_eq o 1 (fun h1 => ?_) (fun h1 => pk_eq o 2 (fun h2 => ?_) (fun h2 => by omega))))
    · rw [if_neg (by omega), if_neg (by omega), if_neg (by omega)] at H
      refine pk_le 2 n (fun h3 => ?_) (fun h3 => ?_)
      · rw [if_pos h3] at H
        rw [nI_clamp (by omega)]
        exact ⟨vp_in_nI (by omega) (by omega), H⟩
      · rw [if_neg (by omega)] at H; exact H
    · rw [if_pos h0] at H; exact H
    · rw [if_neg h0, if_pos h1] at H; exact H
    · rw [if_neg h0, if_neg h1, if_pos h2] at H
      refine pk_eq n 0 (fun h3 => ?_) (fun h3 => ?_)
      · rw [if_pos h3] at H; exact H
      · rw [if_neg h3] at H
        rw [nI_clamp (show f < 2 ^ 31 by omega)]
        exact ⟨vp_in_nI (by omega) (by omega), H⟩
  intro d
  induction d with
  | zero =>
    intro i hi
    have : i = n := by omega
    subst this
    exact pk_le 4 i (fun _ => fin) (fun _ => pk_le i i (fun _ => fin) (fun z => absurd z (by omega)))
  | succ d ih =>
    intro i hi
    have ei : nI f + nI i = nI (f + i) := nI_add f i
    refine pk_le 4 i (fun z => absurd z (by omega)) (fun _ => pk_le n i (fun z => absurd z (by omega)) (fun _ => ?_))
    rw [ei, nI_clamp (by omega)]
    exact ⟨vp_in_nI (by omega) (by omega), nm_e ⟨vp_in_nI (by omega) (by omega), nm_e (nm_r (nI_1 i) (ih (i + 1) (by omega)))⟩⟩
theorem xv_ {p f n o : Nat} {c : Int32} (hp : p < 8) (hf : 1 ≤ f) (hn : n ≤ 3) (hfn : f + n ≤ 151) (ho : o < 4) (en : a_builtGrammar (7 * p + 1) = nI n) (eo : a_builtGrammar (7 * p + 5) = nI o) (ec : a_builtGrammar (7 * p + 6) = c)
    (H : post (vX a_stackValues f o n c)) : wpX_valueOfReduce post (f_productionCount, f_textLength, f_anythingBuilt, f_tokenCount, f_parseValue, f_parsePlace, a_ruleTerms, a_ruleLengths, a_skips, a_grammar, a_ranks, a_groupings, a_text, a_heads, a_tails, a_empties, a_placeLetters, a_followers, a_ruleEnds, a_sets, a_steps, a_classes, a_finerClasses, a_states, a_moves, a_begins, a_lookaheads, a_builtCounts, a_builtSteps, a_builtMatches, a_builtSkips, a_builtGrammar, a_builtMoves, a_builtActions, a_tokenRules, a_tokenBegins, a_tokenEnds, a_stackStates, a_stackValues) (nI p) (nI f) := by
  have e7 : nI p * 7 = nI (7 * p) := by rw [show (7 : Int32) = nI 7 from rfl, pk_mul]; congr 1; omega
  unfold wpX_valueOfReduce
  dsimp only
  rw [e7]
  refine nm_e ?_
  rw [show nI (7 * p) + 1 = nI (7 * p + 1) from nI_1 _, show nI (7 * p) + 6 = nI (7 * p + 6) from nI_add _ 6, nI_clamp (by omega), nI_clamp (by omega), en, ec]
  exact ⟨vp_in_nI (by omega) (by omega), nm_e ⟨vp_in_nI (by omega) (by omega), nm_e ⟨n + 1, xv_35 hp hf hn hfn ho eo H n 0 (by omega)⟩⟩⟩
end
def yS (o k : Nat) (x w : Int32) : Int32 := if o = 0 then x + w else if o = 1 then x * w else if o = 2 then (if k ≤ 1 then x else x - w) else x
def rF (v : Nat → Int32) (f o : Nat) (x : Int32) : Nat → Int32
  | 0 => x
  | k + 1 => yS o (k + 1) (rF v f o x k) (v (f + k))
def vY (v : Nat → Int32) (f o n : Nat) (c : Int32) : Int32 :=
  if o = 3 then (if n ≤ 1 then 0 + c else v (f + 1) + c) else if o = 0 then rF v f o c n else if o = 1 then rF v f o 1 n + c else rF v f o (if n = 0 then 0 else v f) n + c
theorem v_eq (v : Nat → Int32) (f o n : Nat) (c : Int32) (hn : n ≤ 3) (ho : o < 4) : vY v f o n c = vX v f o n c := by
  have hn' : n = 0 ∨ n = 1 ∨ n = 2 ∨ n = 3 := by omega
  have ho' : o = 0 ∨ o = 1 ∨ o = 2 ∨ o = 3 := by omega
  rcases ho' with rfl | rfl | rfl | rfl <;> rcases hn' with rfl | rfl | rfl | rfl <;> simp [vY, vX, rF, yS, sF, pF] <;> grind
theorem v_cg (v w : Nat → Int32) (f o n : Nat) (c : Int32) (hn : n ≤ 3) (h : ∀ i, i < n → v (f + i) = w (f + i)) : vX v f o n c = vX w f o n c := by
  have hn' : n = 0 ∨ n = 1 ∨ n = 2 ∨ n = 3 := by omega
  have h0 := h 0
  have h1 := h 1
  have h2 := h 2
  rcases hn' with rfl | rfl | rfl | rfl <;> simp at h0 h1 h2 <;> simp [vX, sF, pF, h0, h1, h2]
section
variable {g_productions : Int32} {g_start : Int64} {g_sets g_states g_conflicts g_ready g_length g_tokens g_stuck g_scanned g_value g_place : Int32} {b_term b_size b_skipped b_left b_right b_width b_op b_constant b_rank b_grouping b_bTerm b_bSize b_bSkipped b_bLeft b_bWidth b_bOp b_bConstant : Nat → Int32} {b_follow b_ends b_first b_last : Nat → Int64} {b_none : Nat → Int32} {b_set : Nat → Int64} {b_leads b_apart : Nat → Int32} {b_state : Nat → Int64} {b_to b_look b_begins b_nullable b_act b_built b_leadTo b_text b_fits b_token b_stack b_worth : Nat → Int32} {post : Int32 → Prop}
theorem yr_64 {p f n o : Nat} {c x : Int32} (hp : p < 8) (hn : n ≤ 3) (hfn : f + n ≤ 150) (ho : o < 4) (eo : b_bOp p = nI o)
    (H : post (if o = 3 then (if n ≤ 1 then 0 + c else b_worth (f + 2) + c) else if o = 0 then rF b_worth (f + 1) o x n else rF b_worth (f + 1) o x n + c)) :
    ∀ d k, k + d = n + 1 → 1 ≤ k → wY_result_64 post (nI p) (nI f) (nI n) c g_productions g_start g_sets g_states g_conflicts g_ready g_length g_tokens g_stuck g_scanned g_value g_place b_term b_size b_skipped b_left b_right b_width b_op b_constant b_rank b_grouping b_bTerm b_bSize b_bSkipped b_bLeft b_bWidth b_bOp b_bConstant b_follow b_ends b_first b_last b_none b_set b_leads b_apart b_state b_to b_look b_begins b_nullable b_act b_built b_leadTo b_text b_fits b_token b_stack b_worth (d + 1) (rF b_worth (f + 1) o x (k - 1)) (nI k) := by
  have cp : (nI p).toNatClampNeg = p := nI_clamp (by omega)
  have ip : vp_in (nI p) 8 := vp_in_nI hp (by omega)
  intro d
  induction d with
  | zero =>
    intro k hk hk1
    have : k = n + 1 := by omega
    subst this
    refine pk_lt n (n + 1) (fun _ => ⟨ip, ?_⟩) (fun z => absurd z (by omega))
    rw [cp, eo, show nI f + 2 = nI (f + 2) from nI_add f 2]
    refine pk_eq o 3 (fun h3 => ?_) (fun h3 => ⟨ip, pk_eq o 0 (fun h0 => ?_) (fun h0 => ?_)⟩)
    · rw [if_pos h3] at H
      refine pk_le n 1 (fun h1 => ?_) (fun h1 => ?_)
      · rw [if_pos h1] at H; exact H
      · rw [if_neg (by omega)] at H
        rw [nI_clamp (by omega)]
        exact ⟨vp_in_nI (by omega) (by omega), H⟩
    · rw [if_neg h3, if_pos h0] at H; exact H
    · rw [if_neg h3, if_neg h0] at H; exact H
  | succ d ih =>
    intro k hk hk1
    obtain ⟨q, rfl⟩ : ∃ q, k = q + 1 := ⟨k - 1, by omega⟩
    have ih' := ih (q + 1 + 1) (by omega) (by omega)
    rw [show q + 1 + 1 - 1 = q + 1 by omega, rF, show f + 1 + q = f + (q + 1) by omega] at ih'
    rw [show q + 1 - 1 = q by omega]
    refine pk_lt n (q + 1) (fun z => absurd z (by omega)) (fun _ => ?_)
    rw [show nI f + nI (q + 1) = nI (f + (q + 1)) from nI_add f (q + 1), nI_clamp (by omega)]
    refine ⟨vp_in_nI (by omega) (by omega), nm_e ⟨ip, ?_⟩⟩
    unfold wY_result_97 wY_result_114
    rw [cp, eo]
    unfold yS at ih'
    refine pk_eq o 0 (fun h => nm_e ⟨ip, pk_eq o 1 (fun z => by omega) (fun _ => ⟨ip, pk_eq o 2 (fun z => by omega) (fun _ => nm_r (nI_1 (q + 1)) ?_)⟩)⟩) (fun h => ⟨ip, pk_eq o 1 (fun h1 => nm_e ⟨ip, pk_eq o 2 (fun z => by omega) (fun _ => nm_r (nI_1 (q + 1)) ?_)⟩) (fun h1 => ⟨ip, pk_eq o 2 (fun h2 => pk_le (q + 1) 1 (fun h3 => nm_r (nI_1 (q + 1)) ?_) (fun h3 => nm_e (nm_r (nI_1 (q + 1)) ?_))) (fun h2 => nm_r (nI_1 (q + 1)) ?_)⟩)⟩)
    · rw [if_pos h] at ih'; exact ih'
    · rw [if_neg h, if_pos h1] at ih'; exact ih'
    · rw [if_neg h, if_neg h1, if_pos h2, if_pos h3] at ih'; exact ih'
    · rw [if_neg h, if_neg h1, if_pos h2, if_neg (by omega)] at ih'; exact ih'
    · rw [if_neg h, if_neg h1, if_neg h2] at ih'; exact ih'
theorem yr_ {p f n o : Nat} {c : Int32} (hp : p < 8) (hn : n ≤ 3) (hfn : f + n ≤ 150) (ho : o < 4) (en : b_bWidth p = nI n) (eo : b_bOp p = nI o) (ec : b_bConstant p = c) (H : post (vY b_worth (f + 1) o n c)) : wpY_result post (g_productions, g_start, g_sets, g_states, g_conflicts, g_ready, g_length, g_tokens, g_stuck, g_scanned, g_value, g_place, b_term, b_size, b_skipped, b_left, b_right, b_width, b_op, b_constant, b_rank, b_grouping, b_bTerm, b_bSize, b_bSkipped, b_bLeft, b_bWidth, b_bOp, b_bConstant, b_follow, b_ends, b_first, b_last, b_none, b_set, b_leads, b_apart, b_state, b_to, b_look, b_begins, b_nullable, b_act, b_built, b_leadTo, b_text, b_fits, b_token, b_stack, b_worth) (nI p) (nI f) := by
  have cp : (nI p).toNatClampNeg = p := nI_clamp (by omega)
  have ip : vp_in (nI p) 8 := vp_in_nI hp (by omega)
  unfold wpY_result
  dsimp only
  rw [cp, en, eo, ec]
  unfold vY at H
  refine ⟨vp_in_nI (by omega) (by omega), nm_e ⟨ip, nm_e ⟨ip, pk_eq o 1 (fun h1 => ⟨n + 1, ?_⟩) (fun h1 => ⟨ip, pk_eq o 0 (fun h0 => ⟨n + 1, ?_⟩) (fun h0 => pk_le n 0 (fun h2 => ⟨n + 1, ?_⟩) (fun h2 => ?_))⟩)⟩⟩⟩
  · refine yr_64 (x := 1) hp hn hfn ho eo ?_ n 1 (by omega) (by omega)
    rw [if_neg (by omega), if_neg (by omega)]
    rw [if_neg (by omega), if_neg (by omega), if_pos h1] at H; exact H
  · refine yr_64 (x := c) hp hn hfn ho eo ?_ n 1 (by omega) (by omega)
    rw [if_neg (by omega), if_pos h0]
    rw [if_neg (by omega), if_pos h0] at H; exact H
  · refine yr_64 (x := 0) hp hn hfn ho eo ?_ n 1 (by omega) (by omega)
    rw [if_neg h0, if_neg h1, if_pos (show n = 0 by omega)] at H
    rw [if_neg h0]; exact H
  · rw [show nI f + 1 = nI (f + 1) from nI_1 f, nI_clamp (by omega)]
    refine ⟨vp_in_nI (by omega) (by omega), nm_e ⟨n + 1, yr_64 (x := b_worth (f + 1)) hp hn hfn ho eo ?_ n 1 (by omega) (by omega)⟩⟩
    rw [if_neg h0, if_neg h1, if_neg (show ¬ n = 0 by omega)] at H
    rw [if_neg h0]; exact H
theorem ycol {x : Nat} (hx : sym x) (H : post (nI (col x))) : wpY_column post (g_productions, g_start, g_sets, g_states, g_conflicts, g_ready, g_length, g_tokens, g_stuck, g_scanned, g_value, g_place, b_term, b_size, b_skipped, b_left, b_right, b_width, b_op, b_constant, b_rank, b_grouping, b_bTerm, b_bSize, b_bSkipped, b_bLeft, b_bWidth, b_bOp, b_bConstant, b_follow, b_ends, b_first, b_last, b_none, b_set, b_leads, b_apart, b_state, b_to, b_look, b_begins, b_nullable, b_act, b_built, b_leadTo, b_text, b_fits, b_token, b_stack, b_worth) (nI x) := by
  unfold col at H
  have : x < 13 := by rcases hx with h | h <;> omega
  refine pk_le 4 x (fun h => ?_) (fun h => ?_)
  · rw [if_neg (by omega)] at H
    rw [show (6 : Int32) = nI 6 from rfl, pk_sub (by rcases hx with h | h <;> omega)]; exact H
  · rw [if_pos h] at H; exact H
end
end
section
/-! parse: the two machines step by step -/
theorem nat_ind {P : Nat → Prop} (h : ∀ d, (∀ e, d = e + 1 → P e) → P d) : ∀ d, P d
  | 0 => h 0 (fun e z => absurd z (by omega))
  | d + 1 => h (d + 1) (fun e z => by have : e = d := by omega
                                      subst this; exact nat_ind h e)
def sk_ok (ns : Nat) (mv : Nat → Int32) (top : Nat) (sk : Nat → Nat) (ss st sv wo : Nat → Int32) : Prop :=
  sk 0 = 0 ∧ (∀ j, j ≤ top → sk j < ns ∧ ss j = nI (sk j) ∧ st j = nI (sk j)) ∧ (∀ j, j < top → ∃ x, sym x ∧ mv (13 * sk j + x) = nI (sk (j + 1))) ∧ (∀ j, 1 ≤ j → j ≤ top → sv j = wo j)
theorem sk_push {ns : Nat} {mv : Nat → Int32} {top u t x : Nat} {sk : Nat → Nat} {ss st sv wo : Nat → Int32} {w : Int32} (h : sk_ok ns mv top sk ss st sv wo) (hu : u ≤ top) (hx : sym x) (ht : t < ns) (e : mv (13 * sk u + x) = nI t) :
    sk_ok ns mv (u + 1) (fun j => if j = u + 1 then t else sk j) (upd ss (u + 1) (nI t)) (upd st (u + 1) (nI t)) (upd sv (u + 1) w) (upd wo (u + 1) w) := by
  obtain ⟨h1, h2, h3, h4⟩ := h
  refine ⟨h1, fun j hj => ?_, fun j hj => ?_, fun j h0 hj => ?_⟩
  · dsimp only
    by_cases c : j = u + 1
    · subst c; rw [if_pos rfl, pk_us, pk_us]; exact ⟨ht, rfl, rfl⟩
    · rw [if_neg c, pk_un c, pk_un c]; exact h2 j (by omega)
  · dsimp only
    rw [if_neg (show ¬ j = u + 1 by omega)]
    by_cases c : j = u
    · subst c; rw [if_pos rfl]; exact ⟨x, hx, e⟩
    · rw [if_neg (by omega)]; exact h3 j (by omega)
  · by_cases c : j = u + 1
    · subst c; rw [pk_us, pk_us]
    · rw [pk_un c, pk_un c]; exact h4 j h0 (by omega)
theorem tw_cg {b b' : Nat → Bool} (h : ∀ t, t < 5 → b t = b' t) : twO b 5 = twO b' 5 := by
  simp only [twO, h 0 (by omega), h 1 (by omega), h 2 (by omega), h 3 (by omega), h 4 (by omega)]
theorem ac_i {S : Nat → Nat → Bool} {W : Nat → Nat} {mv : Nat → Int32} {s t : Nat} {a y : Int32} (h : ac_ok S W mv s t a y) : (!(a == -1)) = (!(y == 0)) := by
  rcases h with ⟨rfl, rfl⟩ | ⟨rfl, rfl, -⟩ | ⟨rfl, -, q, hq, -, rfl⟩ | ⟨p, hp, rfl, rfl, -⟩
  · rfl
  · rfl
  · have : ¬ nI (2 + q) = 0 := nI_ne0 (by omega) (by omega)
    rw [beq_eq_false_iff_ne.mpr this]; rfl
  · have h1 : ¬ nI (100 + p) = 0 := nI_ne0 (by omega) (by omega)
    have h2 : ¬ nI p = -1 := zn_ne1 (by omega)
    rw [beq_eq_false_iff_ne.mpr h1, beq_eq_false_iff_ne.mpr h2]
section
variable {g_productions : Int32} {g_start : Int64} {g_sets g_states g_conflicts g_ready g_length g_tokens g_stuck g_scanned g_value g_place : Int32} {b_term b_size b_skipped b_left b_right b_width b_op b_constant b_rank b_grouping b_bTerm b_bSize b_bSkipped b_bLeft b_bWidth b_bOp b_bConstant : Nat → Int32} {b_follow b_ends b_first b_last : Nat → Int64} {b_none : Nat → Int32} {b_set : Nat → Int64} {b_leads b_apart : Nat → Int32} {b_state : Nat → Int64} {b_to b_look b_begins b_nullable b_act b_built b_leadTo b_text b_fits b_token b_stack b_worth : Nat → Int32} {post : Int32 → SY → Prop} {J54 : Int32 → Int32 → Int32 → Int32 → Int32 → Int32 → Int32 → (Nat → Int32) → (Nat → Int32) → (Nat → Int32) → (Nat → Int32) → (Nat → Int32) → (Nat → Int32) → (Nat → Int32) → (Nat → Int32) → (Nat → Int32) → (Nat → Int32) → (Nat → Int32) → (Nat → Int32) → (Nat → Int32) → (Nat → Int32) → (Nat → Int32) → (Nat → Int32) → (Nat → Int32) → (Nat → Int64) → (Nat → Int64) → (Nat → Int64) → (Nat → Int64) → (Nat → Int32) → (Nat → Int64) → (Nat → Int32) → (Nat → Int32) → (Nat → Int64) → (Nat → Int32) → (Nat → Int32) → (Nat → Int32) → (Nat → Int32) → (Nat → Int32) → (Nat → Int32) → (Nat → Int32) → (Nat → Int32) → (Nat → Int32) → (Nat → Int32) → (Nat → Int32) → (Nat → Int32) → Prop}
theorem yq_106 {x1 x2 x3 x4 x5 x6 a : Int32} {t0 s : Nat} (ht0 : t0 ≤ 150) (e1 : x1 = nI t0) (hs : s < 40) (es : b_stack t0 = nI s)
    (H : (x6 = 1 → (∀ v, v = b_worth 1 → wY_parse_185 post J54 x1 x2 x3 x4 x5 x6 g_productions g_start g_sets g_states g_conflicts g_ready g_length g_tokens g_stuck g_scanned v x3 b_term b_size b_skipped b_left b_right b_width b_op b_constant b_rank b_grouping b_bTerm b_bSize b_bSkipped b_bLeft b_bWidth b_bOp b_bConstant b_follow b_ends b_first b_last b_none b_set b_leads b_apart b_state b_to b_look b_begins b_nullable b_act b_built b_leadTo b_text b_fits b_token b_stack b_worth)) ∧ (¬ x6 = 1 → ((x6 ≤ 1 → wY_parse_185 post J54 x1 x2 x3 x4 x5 x6 g_productions g_start g_sets g_states g_conflicts g_ready g_length g_tokens g_stuck g_scanned g_value (twA (fun t => !(b_act (5 * s + t) == 0)) a 5) b_term b_size b_skipped b_left b_right b_width b_op b_constant b_rank b_grouping b_bTerm b_bSize b_bSkipped b_bLeft b_bWidth b_bOp b_bConstant b_follow b_ends b_first b_last b_none b_set b_leads b_apart b_state b_to b_look b_begins b_nullable b_act b_built b_leadTo b_text b_fits b_token b_stack b_worth) ∧ (¬ x6 ≤ 1 → wY_parse_185 post J54 x1 x2 x3 x4 x5 x6 g_productions g_start g_sets g_states g_conflicts g_ready g_length g_tokens g_stuck g_scanned g_value x2 b_term b_size b_skipped b_left b_right b_width b_op b_constant b_rank b_grouping b_bTerm b_bSize b_bSkipped b_bLeft b_bWidth b_bOp b_bConstant b_follow b_ends b_first b_last b_none b_set b_leads b_apart b_state b_to b_look b_begins b_nullable b_act b_built b_leadTo b_text b_fits b_token b_stack b_worth)))) :
    ∀ d t, t + d = 5 → wY_parse_106 post J54 x1 x2 x3 x4 x5 x6 g_productions g_start g_sets g_states g_conflicts g_ready g_length g_tokens g_stuck g_scanned g_value b_term b_size b_skipped b_left b_right b_width b_op b_constant b_rank b_grouping b_bTerm b_bSize b_bSkipped b_bLeft b_bWidth b_bOp b_bConstant b_follow b_ends b_first b_last b_none b_set b_leads b_apart b_state b_to b_look b_begins b_nullable b_act b_built b_leadTo b_text b_fits b_token b_stack b_worth (d + 1) (nI t) (twA (fun t => !(b_act (5 * s + t) == 0)) a t) := by
  subst e1
  intro d
  induction d with
  | zero =>
    intro t ht
    have : t = 5 := by omega
    subst this
    exact pk_le 5 5 (fun _ => H) (fun z => absurd z (by omega))
  | succ d ih =>
    intro t ht
    have ih' := ih (t + 1) (by omega)
    refine pk_le 5 t (fun z => absurd z (by omega)) (fun _ => ⟨vp_in_nI (by omega) (by omega), ?_⟩)
    rw [nI_clamp (show t0 < 2 ^ 31 by omega), es, show 5 * nI s + nI t = nI (5 * s + t) from by rw [show (5 : Int32) = nI 5 from rfl, pk_mul, nI_add], nI_clamp (by omega)]
    refine ⟨vp_in_nI (by omega) (by omega), ?_⟩
    by_cases c : b_act (5 * s + t) = 0
    · refine br_t c (nm_r (nI_1 t) ?_)
      rw [twA] at ih'
      simp only [c, beq_self_eq_true, Bool.not_true] at ih'
      exact ih'
    · refine br_f c (nm_e (nm_r (nI_1 t) ?_))
      rw [twA] at ih'
      simp only [beq_eq_false_iff_ne.mpr c, Bool.not_false, if_true] at ih'
      exact ih'
end
section
variable {f_productionCount f_textLength f_anythingBuilt f_tokenCount f_parseValue f_parsePlace : Int32} {a_ruleTerms a_ruleLengths a_skips a_grammar a_ranks a_groupings a_text a_heads a_tails a_empties a_placeLetters a_followers a_ruleEnds : Nat → Int32} {a_sets : Nat → Int64} {a_steps a_classes a_finerClasses : Nat → Int32} {a_states : Nat → Int64} {a_moves a_begins a_lookaheads a_builtCounts a_builtSteps a_builtMatches a_builtSkips a_builtGrammar a_builtMoves a_builtActions a_tokenRules a_tokenBegins a_tokenEnds a_stackStates a_stackValues : Nat → Int32} {g_productions : Int32} {g_start : Int64} {g_sets g_states g_conflicts g_ready g_length g_tokens g_stuck g_scanned g_value g_place : Int32} {b_term b_size b_skipped b_left b_right b_width b_op b_constant b_rank b_grouping b_bTerm b_bSize b_bSkipped b_bLeft b_bWidth b_bOp b_bConstant : Nat → Int32} {b_follow b_ends b_first b_last : Nat → Int64} {b_none : Nat → Int32} {b_set : Nat → Int64} {b_leads b_apart : Nat → Int32} {b_state : Nat → Int64} {b_to b_look b_begins b_nullable b_act b_built b_leadTo b_text b_fits b_token b_stack b_worth : Nat → Int32}
theorem rp_ {ns cnt : Nat} {S : Nat → Nat → Bool} {L W : Nat → Nat} (hns : ns ≤ 40) (hWL : ∀ p, W p ≤ 3 ∧ L p ≤ 13)
    (hG : ∀ p, p < 8 → a_builtGrammar (7 * p) = nI (L p) ∧ a_builtGrammar (7 * p + 1) = nI (W p) ∧ b_bLeft p = nI (L p) ∧ b_bWidth p = nI (W p) ∧ a_builtGrammar (7 * p + 5) = b_bOp p ∧ a_builtGrammar (7 * p + 6) = b_bConstant p ∧ ∃ o, o < 4 ∧ b_bOp p = nI o)
    (hM : ∀ s x, s < ns → sym x → (a_builtMoves (13 * s + x) = -1 ∧ b_leadTo (7 * s + col x) = -1) ∨ ∃ t, 0 < t ∧ t < ns ∧ a_builtMoves (13 * s + x) = nI t ∧ b_leadTo (7 * s + col x) = nI t ∧ ∀ j, S t j = true → j % 4 ≠ 0 → S s (j - 1) = true)
    (hC : ∀ s p, s < ns → p < 8 → S s (4 * p) = true → (10 ≤ L p ∧ L p < 13) ∧ ¬ a_builtMoves (13 * s + L p) = -1)
    (h0 : ∀ j, S 0 j = true → j % 4 = 0) (h32 : ∀ s, s < ns → S s 32 = true → s = 0)
    (hA : ∀ s t, s < ns → t < 5 → ac_ok S W a_builtMoves s t (a_builtActions (5 * s + t)) (b_act (5 * s + t)))
    (hcnt : cnt ≤ 20) (hT : ∀ k, k < cnt → ∃ r i j, r < 4 ∧ i ≤ j ∧ j ≤ 20 ∧ a_tokenRules k = nI r ∧ a_tokenBegins k = nI i ∧ a_tokenEnds k = nI j) :
    ∀ d, ∀ top k red (sk : Nat → Nat) (ss st sv wo : Nat → Int32) (pl0 : Int32), d ≤ 150 → top + d ≤ 150 → k ≤ cnt → sk_ok ns a_builtMoves top sk ss st sv wo →
    ∃ (ans val pl : Int32) (ss' sv' : Nat → Int32),
      (∀ post : Int32 → SX → Prop, post ans (f_productionCount, f_textLength, f_anythingBuilt, nI cnt, val, pl, a_ruleTerms, a_ruleLengths, a_skips, a_grammar, a_ranks, a_groupings, a_text, a_heads, a_tails, a_empties, a_placeLetters, a_followers, a_ruleEnds, a_sets, a_steps, a_classes, a_finerClasses, a_states, a_moves, a_begins, a_lookaheads, a_builtCounts, a_builtSteps, a_builtMatches, a_builtSkips, a_builtGrammar, a_builtMoves, a_builtActions, a_tokenRules, a_tokenBegins, a_tokenEnds, ss', sv') → wX_runParser_16 post (d + 2) (nI top) (nI k) (nI red) (nI (150 - d)) f_productionCount f_textLength f_anythingBuilt (nI cnt) 0 f_parsePlace a_ruleTerms a_ruleLengths a_skips a_grammar a_ranks a_groupings a_text a_heads a_tails a_empties a_placeLetters a_followers a_ruleEnds a_sets a_steps a_classes a_finerClasses a_states a_moves a_begins a_lookaheads a_builtCounts a_builtSteps a_builtMatches a_builtSkips a_builtGrammar a_builtMoves a_builtActions a_tokenRules a_tokenBegins a_tokenEnds ss sv) ∧
      (∀ (su sd : Int32) (f tk : Nat → Int32), (∀ k, k < cnt → tk (3 * k) = a_tokenRules k ∧ tk (3 * k + 1) = a_tokenBegins k ∧ tk (3 * k + 2) = a_tokenEnds k) → ∃ (st' wo' : Nat → Int32), ∀ post : Int32 → SY → Prop, post ans (g_productions, g_start, g_sets, g_states, g_conflicts, g_ready, g_length, nI cnt, su, sd, val, pl, b_term, b_size, b_skipped, b_left, b_right, b_width, b_op, b_constant, b_rank, b_grouping, b_bTerm, b_bSize, b_bSkipped, b_bLeft, b_bWidth, b_bOp, b_bConstant, b_follow, b_ends, b_first, b_last, b_none, b_set, b_leads, b_apart, b_state, b_to, b_look, b_begins, b_nullable, b_act, b_built, b_leadTo, a_text, f, tk, st', wo') → wY_parse_54 post g_productions g_start g_sets g_states g_conflicts g_ready g_length (nI cnt) su sd (d + 2) (nI top) (nI k) (nI red) (-1) (nI (150 - d)) 0 pl0 b_term b_size b_skipped b_left b_right b_width b_op b_constant b_rank b_grouping b_bTerm b_bSize b_bSkipped b_bLeft b_bWidth b_bOp b_bConstant b_follow b_ends b_first b_last b_none b_set b_leads b_apart b_state b_to b_look b_begins b_nullable b_act b_built b_leadTo a_text f tk st wo) := by
  refine nat_ind ?_
  intro d ih top k red sk ss st sv wo pl0 hd htop hk hsk
  obtain ⟨s0, s1, s2, s3⟩ := id hsk
  obtain ⟨hs, ess, est⟩ := s1 top (Nat.le_refl _)
  -- the terminal that is looked at
  obtain ⟨t, ht5, htk⟩ : ∃ t, t < 5 ∧ ((k < cnt ∧ t < 4 ∧ a_tokenRules k = nI t) ∨ (k = cnt ∧ t = 4)) := by
    rcases Nat.lt_or_ge k cnt with c | c
    · obtain ⟨r, i, j, hr, -, -, e1, -⟩ := hT k c
      exact ⟨r, by omega, Or.inl ⟨c, hr, e1⟩⟩
    · exact ⟨4, by omega, Or.inr ⟨by omega, rfl⟩⟩
  have ct : (nI top).toNatClampNeg = top := nI_clamp (by omega)
  have ck : (nI k).toNatClampNeg = k := nI_clamp (by omega)
  have X42 : ∀ post : Int32 → SX → Prop, wX_runParser_42 post (wX_runParser_16 post (d + 1)) (nI top) (nI k) (nI red) (nI (150 - d)) (nI t) f_productionCount f_textLength f_anythingBuilt (nI cnt) 0 f_parsePlace a_ruleTerms a_ruleLengths a_skips a_grammar a_ranks a_groupings a_text a_heads a_tails a_empties a_placeLetters a_followers a_ruleEnds a_sets a_steps a_classes a_finerClasses a_states a_moves a_begins a_lookaheads a_builtCounts a_builtSteps a_builtMatches a_builtSkips a_builtGrammar a_builtMoves a_builtActions a_tokenRules a_tokenBegins a_tokenEnds ss sv → wX_runParser_16 post (d + 2) (nI top) (nI k) (nI red) (nI (150 - d)) f_productionCount f_textLength f_anythingBuilt (nI cnt) 0 f_parsePlace a_ruleTerms a_ruleLengths a_skips a_grammar a_ranks a_groupings a_text a_heads a_tails a_empties a_placeLetters a_followers a_ruleEnds a_sets a_steps a_classes a_finerClasses a_states a_moves a_begins a_lookaheads a_builtCounts a_builtSteps a_builtMatches a_builtSkips a_builtGrammar a_builtMoves a_builtActions a_tokenRules a_tokenBegins a_tokenEnds ss sv := by
    intro post H
    refine br_f (nI_nlt (a := 150) (by omega) (by omega)) ?_
    rcases htk with ⟨c, -, e1⟩ | ⟨c, e4⟩
    · refine br_f (nI_ge c (by omega)) ⟨vp_in_nI (by omega) (by omega), ?_⟩
      rw [ck, e1]; exact H
    · subst e4; exact br_t (nI_le (by omega) (by omega)) H
  have Y91 : ∀ (su sd : Int32) (f tk : Nat → Int32), (∀ k, k < cnt → tk (3 * k) = a_tokenRules k ∧ tk (3 * k + 1) = a_tokenBegins k ∧ tk (3 * k + 2) = a_tokenEnds k) → ∀ post : Int32 → SY → Prop, wY_parse_91 post (wY_parse_54 post g_productions g_start g_sets g_states g_conflicts g_ready g_length (nI cnt) su sd (d + 1)) (nI top) (nI k) (nI red) (-1) (nI (150 - d)) (nI t) (5 * nI (sk top)) g_productions g_start g_sets g_states g_conflicts g_ready g_length (nI cnt) su sd 0 pl0 b_term b_size b_skipped b_left b_right b_width b_op b_constant b_rank b_grouping b_bTerm b_bSize b_bSkipped b_bLeft b_bWidth b_bOp b_bConstant b_follow b_ends b_first b_last b_none b_set b_leads b_apart b_state b_to b_look b_begins b_nullable b_act b_built b_leadTo a_text f tk st wo → wY_parse_54 post g_productions g_start g_sets g_states g_conflicts g_ready g_length (nI cnt) su sd (d + 2) (nI top) (nI k) (nI red) (-1) (nI (150 - d)) 0 pl0 b_term b_size b_skipped b_left b_right b_width b_op b_constant b_rank b_grouping b_bTerm b_bSize b_bSkipped b_bLeft b_bWidth b_bOp b_bConstant b_follow b_ends b_first b_last b_none b_set b_leads b_apart b_state b_to b_look b_begins b_nullable b_act b_built b_leadTo a_text f tk st wo := by
    intro su sd f tk htk2 post H
    refine br_f (by decide) ⟨vp_in_nI (by omega) (by omega), ?_⟩
    rw [ct, est]
    rcases htk with ⟨c, -, e2⟩ | ⟨c, e4⟩
    · refine br_f (nI_ge c (by omega)) ?_
      rw [show 3 * nI k = nI (3 * k) from by rw [show (3 : Int32) = nI 3 from rfl, pk_mul], nI_clamp (show 3 * k < 2 ^ 31 by omega), (htk2 k c).1, e2]
      exact ⟨vp_in_nI (by omega) (by omega), H⟩
    · subst e4; exact br_t (nI_le (by omega) (by omega)) H
  have hac := hA (sk top) t hs ht5
  have xi : nI (sk top) * 5 + nI t = nI (5 * sk top + t) := by rw [show (5 : Int32) = nI 5 from rfl, pk_mul, nI_add]; congr 1; omega
  have yi : 5 * nI (sk top) + nI t = nI (5 * sk top + t) := by rw [show (5 : Int32) = nI 5 from rfl, pk_mul, nI_add]
  have it : vp_in (nI top) 151 := vp_in_nI (by omega) (by omega)
  -- the walk up to the action, on both sides
  have X7 : ∀ (post : Int32 → SX → Prop) (P : Int32 → Prop), P (a_builtActions (5 * sk top + t)) → (vp_in (nI top) 151 ∧ (vp_in (ss (nI top).toNatClampNeg * 5 + nI t) 200 ∧ ∀ x6_7, x6_7 = a_builtActions (ss (nI top).toNatClampNeg * 5 + nI t).toNatClampNeg → P x6_7)) := by
    intro post P H
    rw [ct, ess, xi, nI_clamp (by omega)]
    exact ⟨it, vp_in_nI (by omega) (by omega), nm_e H⟩
  have Y7 : ∀ (su sd : Int32) (f tk : Nat → Int32) (post : Int32 → SY → Prop) (y : Int32), b_act (5 * sk top + t) = y →
      ((y = 1 → (∀ v, v = wo 1 → wY_parse_185 post (wY_parse_54 post g_productions g_start g_sets g_states g_conflicts g_ready g_length (nI cnt) su sd (d + 1)) (nI top) (nI k) (nI red) (-1) (nI (150 - d)) y g_productions g_start g_sets g_states g_conflicts g_ready g_length (nI cnt) su sd v (nI red) b_term b_size b_skipped b_left b_right b_width b_op b_constant b_rank b_grouping b_bTerm b_bSize b_bSkipped b_bLeft b_bWidth b_bOp b_bConstant b_follow b_ends b_first b_last b_none b_set b_leads b_apart b_state b_to b_look b_begins b_nullable b_act b_built b_leadTo a_text f tk st wo)) ∧ (¬ y = 1 → ((y ≤ 1 → wY_parse_185 post (wY_parse_54 post g_productions g_start g_sets g_states g_conflicts g_ready g_length (nI cnt) su sd (d + 1)) (nI top) (nI k) (nI red) (-1) (nI (150 - d)) y g_productions g_start g_sets g_states g_conflicts g_ready g_length (nI cnt) su sd 0 (twA (fun t => !(b_act (5 * sk top + t) == 0)) (64 * nI k) 5) b_term b_size b_skipped b_left b_right b_width b_op b_constant b_rank b_grouping b_bTerm b_bSize b_bSkipped b_bLeft b_bWidth b_bOp b_bConstant b_follow b_ends b_first b_last b_none b_set b_leads b_apart b_state b_to b_look b_begins b_nullable b_act b_built b_leadTo a_text f tk st wo) ∧ (¬ y ≤ 1 → wY_parse_185 post (wY_parse_54 post g_productions g_start g_sets g_states g_conflicts g_ready g_length (nI cnt) su sd (d + 1)) (nI top) (nI k) (nI red) (-1) (nI (150 - d)) y g_productions g_start g_sets g_states g_conflicts g_ready g_length (nI cnt) su sd 0 (nI k) b_term b_size b_skipped b_left b_right b_width b_op b_constant b_rank b_grouping b_bTerm b_bSize b_bSkipped b_bLeft b_bWidth b_bOp b_bConstant b_follow b_ends b_first b_last b_none b_set b_leads b_apart b_state b_to b_look b_begins b_nullable b_act b_built b_leadTo a_text f tk st wo)))) →
      wY_parse_91 post (wY_parse_54 post g_productions g_start g_sets g_states g_conflicts g_ready g_length (nI cnt) su sd (d + 1)) (nI top) (nI k) (nI red) (-1) (nI (150 - d)) (nI t) (5 * nI (sk top)) g_productions g_start g_sets g_states g_conflicts g_ready g_length (nI cnt) su sd 0 pl0 b_term b_size b_skipped b_left b_right b_width b_op b_constant b_rank b_grouping b_bTerm b_bSize b_bSkipped b_bLeft b_bWidth b_bOp b_bConstant b_follow b_ends b_first b_last b_none b_set b_leads b_apart b_state b_to b_look b_begins b_nullable b_act b_built b_leadTo a_text f tk st wo := by
    intro su sd f tk post y ey H
    unfold wY_parse_91
    rw [yi, nI_clamp (by omega), ey]
    exact ⟨vp_in_nI (by omega) (by omega), nm_e (nm_e ⟨6, yq_106 (t0 := top) (by omega) rfl (by omega) est H 5 0 (by omega)⟩)⟩
  rcases hac with ⟨ea, ey⟩ | ⟨ea, ey, hS⟩ | ⟨ea, ht4, q, hq, emv, ey⟩ | ⟨p, hp, ea, ey, hS⟩
  · -- an error
    refine ⟨5, 0, 64 * nI k + twO (fun t => !(a_builtActions (5 * sk top + t) == -1)) 5, ss, sv, fun post H => X42 post ?_, fun su sd f tk htk2 => ⟨st, wo, fun post H => Y91 su sd f tk htk2 post (Y7 su sd f tk post 0 ey ?_)⟩⟩
    · unfold wX_runParser_42
      rw [ct, ess, xi, nI_clamp (show 5 * sk top + t < 2 ^ 31 by omega), ea]
      refine ⟨it, vp_in_nI (by omega) (by omega), nm_e (br_t rfl ⟨it, xt_ (by omega) (nm_e H)⟩)⟩
    · refine br_f (by decide) (br_t (by decide) ?_)
      refine br_f (by decide) (br_t rfl (nm_e (br_t (by decide) ?_)))
      rw [tw_e, ← tw_cg (fun t ht => ac_i (hA (sk top) t hs ht))]
      exact H
  · -- accepted: one value on the stack
    have ht1 : top = 1 := by
      rcases Nat.eq_zero_or_pos top with c | c
      · rw [c, s0] at hS
        exact absurd (h0 33 hS) (by decide)
      · obtain ⟨x, hx, ex⟩ := s2 (top - 1) (by omega)
        rw [show top - 1 + 1 = top by omega] at ex
        rcases hM (sk (top - 1)) x (s1 (top - 1) (by omega)).1 hx with ⟨e1, -⟩ | ⟨t', ht0, ht', e1, -, e3⟩
        · rw [e1] at ex; exact absurd ex.symm (zn_ne1 (by omega))
        · have et : t' = sk top := zn_inj (by omega) (by omega) (e1.symm.trans ex)
          subst et
          have h33 := h32 _ (s1 (top - 1) (by omega)).1 (e3 33 hS (by decide))
          rcases Nat.eq_zero_or_pos (top - 1) with c1 | c1
          · omega
          · obtain ⟨x', hx', ex'⟩ := s2 (top - 2) (by omega)
            rw [show top - 2 + 1 = top - 1 by omega, h33] at ex'
            rcases hM (sk (top - 2)) x' (s1 (top - 2) (by omega)).1 hx' with ⟨e1', -⟩ | ⟨t'', ht0', ht'', e1', -, -⟩
            · rw [e1'] at ex'; exact absurd ex'.symm (zn_ne1 (by omega))
            · have := zn_inj (by omega) (by omega) (e1'.symm.trans ex')
              omega
    subst ht1
    refine ⟨0, sv 1, nI red, ss, sv, fun post H => X42 post ?_, fun su sd f tk htk2 => ⟨st, wo, fun post H => Y91 su sd f tk htk2 post (Y7 su sd f tk post 1 ey ?_)⟩⟩
    · unfold wX_runParser_42
      rw [ct, ess, xi, nI_clamp (show 5 * sk 1 + t < 2 ^ 31 by omega), ea]
      exact ⟨it, vp_in_nI (by omega) (by omega), nm_e (br_f (by decide) (br_t rfl ⟨it, nm_e H⟩))⟩
    · refine br_t rfl (nm_e (br_f (by decide) (br_f (by decide) (nm_e (br_t (by decide) ?_)))))
      rw [← s3 1 (by omega) (by omega)]
      exact H
  · -- shift
    have hk4 : k < cnt := by rcases htk with ⟨c, -⟩ | ⟨-, c⟩ <;> omega
    have y1 : ¬ nI (2 + q) = 1 := by rw [show (1 : Int32) = nI 1 from rfl, nI_eq (by omega) (by omega)]; omega
    have y2 : ¬ nI (2 + q) ≤ 1 := nI_ge (a := 1) (by omega) (by omega)
    cases d with
    | zero =>
      refine ⟨6, 0, nI k, ss, sv, fun post H => X42 post ?_, fun su sd f tk htk2 => ⟨st, wo, fun post H => Y91 su sd f tk htk2 post (Y7 su sd f tk post _ ey ?_)⟩⟩
      · unfold wX_runParser_42
        rw [ct, ess, xi, nI_clamp (show 5 * sk top + t < 2 ^ 31 by omega), ea]
        exact ⟨it, vp_in_nI (by omega) (by omega), nm_e (br_f (by decide) (br_f (by decide) (br_t rfl H)))⟩
      · exact br_f y1 (br_f y2 (br_t (nI_le (a := 2) (by omega) (by omega)) (br_t rfl (nm_e (br_t (by decide) H)))))
    | succ d =>
      obtain ⟨r, i, j, hr, hij, hj, t1, t2, t3⟩ := hT k hk4
      have hq' : q < ns := by
        rcases hM (sk top) t hs (Or.inl ht4) with ⟨e1, -⟩ | ⟨t', -, ht', e1, -⟩
        · rw [e1] at emv; exact absurd emv.symm (zn_ne1 (by omega))
        · have := zn_inj (by omega) (by omega) (e1.symm.trans emv)
          omega
      have n150 : ¬ nI (150 - (d + 1)) = 150 := by rw [show (150 : Int32) = nI 150 from rfl, nI_eq (by omega) (by omega)]; omega
      have e150 : nI (150 - (d + 1)) + 1 = nI (150 - d) := by rw [nI_1]; congr 1; omega
      obtain ⟨ans, val, pl, ss', sv', HX, HY⟩ := ih d rfl (top + 1) (k + 1) red _ _ _ _ _ (nI k) (by omega) (by omega) (by omega) (sk_push (w := nuF a_text (j - i) i 0) hsk (Nat.le_refl _) (Or.inl ht4) hq' emv)
      refine ⟨ans, val, pl, ss', sv', fun post H => X42 post ?_, fun su sd f tk htk2 => ?_⟩
      · unfold wX_runParser_42
        rw [ct, ess, xi, nI_clamp (show 5 * sk top + t < 2 ^ 31 by omega), ea]
        refine ⟨it, vp_in_nI (by omega) (by omega), nm_e (br_f (by decide) (br_f (by decide) (br_f n150 (br_t rfl (xn_ (by omega) hij hj t2 t3 ?_)))))⟩
        unfold wpX_push
        dsimp only
        rw [ct, ess, show nI (sk top) * 13 + nI t = nI (13 * sk top + t) from by rw [show (13 : Int32) = nI 13 from rfl, pk_mul, nI_add]; congr 1; omega, nI_clamp (show 13 * sk top + t < 2 ^ 31 by omega), emv, nI_1 top, nI_clamp (show top + 1 < 2 ^ 31 by omega)]
        exact ⟨it, vp_in_nI (by omega) (by omega), vp_in_nI (by omega) (by omega), nm_e ⟨vp_in_nI (by omega) (by omega), nm_e (nm_r (nI_1 k) (nm_r e150 (HX post H)))⟩⟩
      · obtain ⟨st', wo', HY⟩ := HY su sd f tk htk2
        refine ⟨st', wo', fun post H => Y91 su sd f tk htk2 post (Y7 su sd f tk post _ ey ?_)⟩
        refine br_f y1 (br_f y2 (br_t (nI_le (a := 2) (by omega) (by omega)) (br_f n150 (br_f (nI_ge (b := 100) (by omega) (by omega)) (nm_r (nI_1 top) ?_)))))
        rw [nI_clamp (show top + 1 < 2 ^ 31 by omega), show nI (2 + q) - 2 = nI q from by rw [show (2 : Int32) = nI 2 from rfl, pk_sub (by omega)]; congr 1; omega]
        refine ⟨vp_in_nI (by omega) (by omega), nm_e (nm_r (nI_1 k) (yn_ (by omega) hij hj ((htk2 k hk4).2.1.trans t2) ((htk2 k hk4).2.2.trans t3) ⟨vp_in_nI (by omega) (by omega), nm_e (nm_r e150 (HY post H))⟩))⟩
  · -- reduce
    obtain ⟨g1, g2, g3, g4, g5, g6, o, ho, g7⟩ := hG p hp
    have hw3 := (hWL p).1
    have y1 : ¬ nI (100 + p) = 1 := by rw [show (1 : Int32) = nI 1 from rfl, nI_eq (by omega) (by omega)]; omega
    have y2 : ¬ nI (100 + p) ≤ 1 := nI_ge (a := 1) (by omega) (by omega)
    have a1 : ¬ nI p = -1 := zn_ne1 (by omega)
    have a8 : ¬ nI p = 8 := by rw [show (8 : Int32) = nI 8 from rfl, nI_eq (by omega) (by omega)]; omega
    have a9 : ¬ nI p = 9 := by rw [show (9 : Int32) = nI 9 from rfl, nI_eq (by omega) (by omega)]; omega
    -- as many states as the production is wide
    have back : ∀ w, w ≤ W p → w ≤ top ∧ S (sk (top - w)) (4 * p + (W p - w)) = true := by
      intro w
      induction w with
      | zero => intro _; exact ⟨by omega, hS⟩
      | succ w ihw =>
        intro hw
        obtain ⟨b1, b2⟩ := ihw (by omega)
        have hne : (4 * p + (W p - w)) % 4 ≠ 0 := by omega
        have hlt : w < top := by
          rcases Nat.lt_or_ge w top with c | c
          · exact c
          · have : top - w = 0 := by omega
            rw [this, s0] at b2
            exact absurd (h0 _ b2) hne
        refine ⟨hlt, ?_⟩
        obtain ⟨x, hx, ex⟩ := s2 (top - (w + 1)) (by omega)
        rw [show top - (w + 1) + 1 = top - w by omega] at ex
        have hs1 := (s1 (top - w) (by omega)).1
        rcases hM (sk (top - (w + 1))) x (s1 (top - (w + 1)) (by omega)).1 hx with ⟨e1, -⟩ | ⟨t', ht0, ht', e1, -, e3⟩
        · rw [e1] at ex; exact absurd ex.symm (zn_ne1 (by omega))
        · have et : t' = sk (top - w) := zn_inj (by omega) (by omega) (e1.symm.trans ex)
          rw [et] at e3
          have := e3 _ b2 hne
          rw [show 4 * p + (W p - w) - 1 = 4 * p + (W p - (w + 1)) by omega] at this
          exact this
    obtain ⟨hWt, hSu⟩ := back (W p) (Nat.le_refl _)
    rw [Nat.sub_self, Nat.add_zero] at hSu
    obtain ⟨hsu, essu, estu⟩ := s1 (top - W p) (by omega)
    obtain ⟨hL, hmv⟩ := hC _ p hsu hp hSu
    have hLs : sym (L p) := Or.inr hL
    rcases hM (sk (top - W p)) (L p) hsu hLs with ⟨e1, -⟩ | ⟨t', ht0, ht', emv, elt, -⟩
    · exact absurd e1 hmv
    cases d with
    | zero =>
      refine ⟨6, 0, nI k, ss, sv, fun post H => X42 post ?_, fun su sd f tk htk2 => ⟨st, wo, fun post H => Y91 su sd f tk htk2 post (Y7 su sd f tk post _ ey ?_)⟩⟩
      · unfold wX_runParser_42
        rw [ct, ess, xi, nI_clamp (show 5 * sk top + t < 2 ^ 31 by omega), ea]
        exact ⟨it, vp_in_nI (by omega) (by omega), nm_e (br_f a1 (br_f a8 (br_t rfl H)))⟩
      · exact br_f y1 (br_f y2 (br_t (nI_le (a := 2) (by omega) (by omega)) (br_t rfl (nm_e (br_t (by decide) H)))))
    | succ d =>
      have n150 : ¬ nI (150 - (d + 1)) = 150 := by rw [show (150 : Int32) = nI 150 from rfl, nI_eq (by omega) (by omega)]; omega
      have e150 : nI (150 - (d + 1)) + 1 = nI (150 - d) := by rw [nI_1]; congr 1; omega
      have ev : vY wo (top - W p + 1) o (W p) (b_bConstant p) = vX sv (top - W p + 1) o (W p) (b_bConstant p) := by
        rw [v_eq _ _ _ _ _ hw3 ho]
        exact (v_cg _ _ _ _ _ _ hw3 (fun i hi => s3 _ (by omega) (by omega))).symm
      obtain ⟨ans, val, pl, ss', sv', HX, HY⟩ := ih d rfl (top - W p + 1) k (red + 1) _ _ _ _ _ (nI k) (by omega) (by omega) hk (sk_push (w := vX sv (top - W p + 1) o (W p) (b_bConstant p)) hsk (show top - W p ≤ top by omega) hLs ht' emv)
      refine ⟨ans, val, pl, ss', sv', fun post H => X42 post ?_, fun su sd f tk htk2 => ?_⟩
      · unfold wX_runParser_42
        rw [ct, ess, xi, nI_clamp (show 5 * sk top + t < 2 ^ 31 by omega), ea]
        refine ⟨it, vp_in_nI (by omega) (by omega), nm_e (br_f a1 (br_f a8 (br_f n150 (br_f a9 ?_))))⟩
        unfold wpX_reduceBy
        dsimp only
        rw [show nI p * 7 = nI (7 * p) from by rw [show (7 : Int32) = nI 7 from rfl, pk_mul]; congr 1; omega]
        refine nm_e ?_
        rw [show nI (7 * p) + 1 = nI (7 * p + 1) from nI_1 _, show nI (7 * p) + 0 = nI (7 * p) from nI_add _ 0, nI_clamp (show 7 * p + 1 < 2 ^ 31 by omega), nI_clamp (show 7 * p < 2 ^ 31 by omega), g2, g1]
        refine ⟨vp_in_nI (by omega) (by omega), nm_r (pk_sub hWt) ?_⟩
        rw [nI_1 (top - W p)]
        refine xv_ hp (by omega) hw3 (by omega) ho g2 (g5.trans g7) g6 ⟨vp_in_nI (by omega) (by omega), ?_⟩
        unfold wpX_push
        dsimp only
        rw [nI_clamp (show top - W p < 2 ^ 31 by omega), essu, show nI (sk (top - W p)) * 13 + nI (L p) = nI (13 * sk (top - W p) + L p) from by rw [show (13 : Int32) = nI 13 from rfl, pk_mul, nI_add]; congr 1; omega, nI_clamp (show 13 * sk (top - W p) + L p < 2 ^ 31 by omega), emv, nI_1 (top - W p), nI_clamp (show top - W p + 1 < 2 ^ 31 by omega)]
        exact ⟨vp_in_nI (by omega) (by omega), vp_in_nI (by omega) (by omega), vp_in_nI (by omega) (by omega), nm_e ⟨vp_in_nI (by omega) (by omega), nm_e (nm_r (nI_1 red) (nm_r e150 (HX post H)))⟩⟩
      · obtain ⟨st', wo', HY⟩ := HY su sd f tk htk2
        refine ⟨st', wo', fun post H => Y91 su sd f tk htk2 post (Y7 su sd f tk post _ ey ?_)⟩
        refine br_f y1 (br_f y2 (br_t (nI_le (a := 2) (by omega) (by omega)) (br_f n150 (br_t (nI_le (a := 100) (by omega) (by omega)) (nm_r (e' := nI p) (by rw [show (100 : Int32) = nI 100 from rfl, pk_sub (by omega)]; congr 1; omega) ?_)))))
        rw [nI_clamp (show p < 2 ^ 31 by omega), g4, g3]
        refine ⟨vp_in_nI (by omega) (by omega), nm_r (pk_sub hWt) (yr_ hp hw3 (by omega) ho g4 g7 rfl ?_)⟩
        rw [nI_1 (top - W p), nI_clamp (show top - W p + 1 < 2 ^ 31 by omega), nI_clamp (show top - W p < 2 ^ 31 by omega), estu, ev]
        refine ⟨vp_in_nI (by omega) (by omega), nm_e ⟨vp_in_nI (by omega) (by omega), vp_in_nI (by omega) (by omega), ycol hLs ?_⟩⟩
        have hcl : col (L p) < 7 := by unfold col; split <;> omega
        rw [show 7 * nI (sk (top - W p)) + nI (col (L p)) = nI (7 * sk (top - W p) + col (L p)) from by rw [show (7 : Int32) = nI 7 from rfl, pk_mul, nI_add], nI_clamp (show 7 * sk (top - W p) + col (L p) < 2 ^ 31 by omega), elt]
        exact ⟨vp_in_nI (by omega) (by omega), vp_in_nI (by omega) (by omega), nm_e (nm_e (nm_r (nI_1 red) (nm_r e150 (HY post H))))⟩
end
end
section
theorem i_vc_parse {k : Nat} {u : SX} {v : SY} (I : i_Rel k u v) (hk : k + 5 ≤ 2560) : wpX_parse (fun r u' => wpY_parse (fun r' v' => r' = r ∧ i_Rel (k + 5) u' v') v) u := by
  obtain ⟨f_productionCount, f_textLength, f_anythingBuilt, f_tokenCount, f_parseValue, f_parsePlace, a_ruleTerms, a_ruleLengths, a_skips, a_grammar, a_ranks, a_groupings, a_text, a_heads, a_tails, a_empties, a_placeLetters, a_followers, a_ruleEnds, a_sets, a_steps, a_classes, a_finerClasses, a_states, a_moves, a_begins, a_lookaheads, a_builtCounts, a_builtSteps, a_builtMatches, a_builtSkips, a_builtGrammar, a_builtMoves, a_builtActions, a_tokenRules, a_tokenBegins, a_tokenEnds, a_stackStates, a_stackValues⟩ := u
  obtain ⟨g_productions, g_start, g_sets, g_states, g_conflicts, g_ready, g_length, g_tokens, g_stuck, g_scanned, g_value, g_place, b_term, b_size, b_skipped, b_left, b_right, b_width, b_op, b_constant, b_rank, b_grouping, b_bTerm, b_bSize, b_bSkipped, b_bLeft, b_bWidth, b_bOp, b_bConstant, b_follow, b_ends, b_first, b_last, b_none, b_set, b_leads, b_apart, b_state, b_to, b_look, b_begins, b_nullable, b_act, b_built, b_leadTo, b_text, b_fits, b_token, b_stack, b_worth⟩ := v
  have I0 := I
  obtain ⟨rfl, rfl, rfl, rfl, rfl, rfl, rfl, rfl, hr, hg, ht, hb⟩ := I
  unfold wpX_parse wpY_parse
  dsimp only
  rcases hb with ⟨rfl, rfl⟩ | ⟨rfl, rfl, hcn, hsk, hs, hp, hsd⟩
  · exact br_t rfl (br_t rfl ⟨rfl, I0⟩)
  obtain ⟨n, hn, rfl, rfl, hl⟩ := ht
  rw [nI_clamp (by omega)] at hsd
  refine br_f (by decide) (xc_cut hn hs hl rfl ?_)
  generalize hz : ct a_builtSteps a_builtMatches a_builtSkips (nv a_text) n 20 (0, 0, a_tokenRules, a_tokenBegins, a_tokenEnds) = z
  obtain ⟨z1, z2, z3, z4, z5⟩ := tk_both hs (nv_l hl) hz
  dsimp only
  refine pk_le n z.1 (fun c => ?_) (fun c => ?_)
  · obtain ⟨ns, S, L, W, p0, p1, p2, p3, p4, p5, p6, p7, p8⟩ := hp
    unfold wpX_runParser
    dsimp only
    have hp' : pa_ok a_builtGrammar a_builtMoves a_builtActions b_bLeft b_bWidth b_bOp b_bConstant b_leadTo b_act := ⟨ns, S, L, W, p0, p1, p2, p3, p4, p5, p6, p7, p8⟩
    refine nm_e ⟨152, ?_⟩
    obtain ⟨ans, val, pl, ss', sv', HX, HY⟩ := rp_ (f_productionCount := f_productionCount) (f_textLength := nI n) (f_anythingBuilt := 1) (f_parsePlace := f_parsePlace) (a_ruleTerms := a_ruleTerms) (a_ruleLengths := a_ruleLengths) (a_skips := a_skips) (a_grammar := a_grammar) (a_ranks := a_ranks) (a_groupings := a_groupings) (a_text := a_text) (a_heads := a_heads) (a_tails := a_tails) (a_empties := a_empties) (a_placeLetters := a_placeLetters) (a_followers := a_followers) (a_ruleEnds := a_ruleEnds) (a_sets := a_sets) (a_steps := a_steps) (a_classes := a_classes) (a_finerClasses := a_finerClasses) (a_states := a_states) (a_moves := a_moves) (a_begins := a_begins) (a_lookaheads := a_lookaheads) (a_builtCounts := a_builtCounts) (a_builtSteps := a_builtSteps) (a_builtMatches := a_builtMatches) (a_builtSkips := a_builtSkips) (g_productions := g_productions) (g_start := g_start) (g_sets := g_sets) (g_states := g_states) (g_conflicts := g_conflicts) (g_ready := 1) (g_length := nI n) (b_term := a_ruleTerms) (b_size := a_ruleLengths) (b_skipped := a_skips) (b_left := b_left) (b_right := b_right) (b_width := b_width) (b_op := b_op) (b_constant := b_constant) (b_rank := a_ranks) (b_grouping := a_groupings) (b_bTerm := b_bTerm) (b_bSize := b_bSize) (b_bSkipped := b_bSkipped) (b_follow := b_follow) (b_ends := b_ends) (b_first := b_first) (b_last := b_last) (b_none := b_none) (b_set := b_set) (b_leads := b_leads) (b_apart := b_apart) (b_state := b_state) (b_to := b_to) (b_look := b_look) (b_begins := b_begins) (b_nullable := b_nullable) (b_built := b_built) (a_tokenRules := z.2.2.1) (a_tokenBegins := z.2.2.2.1) (a_tokenEnds := z.2.2.2.2)
      (cnt := z.2.1) p1 p2 p3 p4 p5 p6 p7 p8 z4 (fun j hj => by
        obtain ⟨q1, q2, q3, ⟨r, hr4, q4⟩, i, e, hie, hen, q5, q6⟩ := z5 j hj
        exact ⟨r, i, e, hr4, hie, by omega, q4, q5, q6⟩) 150 0 0 0 (fun _ => 0) (upd a_stackStates 0 0) (upd b_stack 0 0) a_stackValues b_worth (-1) (by omega) (by omega) (by omega) ⟨rfl, fun j hj => by
          have : j = 0 := by omega
          subst this
          exact ⟨p0, pk_us, pk_us⟩, fun j hj => absurd hj (by omega), fun j a b => by omega⟩
    refine HX _ (br_f (by decide) (ys_ hn hl hs hsk rfl hsd (fun su sd f tk h => ?_)))
    have esu : su = -1 := h.2.2.1 (by rw [← z1]; exact c)
    subst esu
    obtain ⟨st', wo', HY⟩ := HY (-1) sd f tk (fun j hj => by
      obtain ⟨q1, q2, q3, -⟩ := z5 j hj
      obtain ⟨t1, t2, t3⟩ := h.2.2.2 j (by rw [← z2]; exact hj)
      exact ⟨t1.trans q1.symm, t2.trans q2.symm, t3.trans q3.symm⟩)
    rw [← z2]
    refine br_t (show (-1 : Int32) < 0 by decide) (nm_e ⟨152, HY _ ⟨rfl, rl_mk rfl rfl rfl rfl rfl rfl rfl rfl hr hg ⟨n, hn, rfl, rfl, hl⟩ (Or.inr ⟨rfl, rfl, hcn, hsk, hs, hp', Or.inr ?_⟩)⟩⟩)
    rw [nI_clamp (by omega), z2]
    exact h
  · refine br_f (by decide) (ys_ hn hl hs hsk rfl hsd (fun su sd f tk h => ?_))
    have esu : su = nI z.1 := by rw [z1]; exact h.2.1 (by rw [← z1]; exact c)
    subst esu
    refine br_f (nI_pos (by omega)) ⟨rfl, rl_mk rfl rfl rfl rfl rfl rfl rfl rfl hr hg ⟨n, hn, rfl, rfl, hl⟩ (Or.inr ⟨rfl, rfl, hcn, hsk, hs, hp, Or.inr ?_⟩)⟩
    rw [nI_clamp (by omega)]
    exact h
end
section
/-! places: an expression's heads, tails and followers read just what it stands for -/
def ub (F : Nat → Nat → Bool) (d : Nat) (A : Nat → Bool) : Nat → Nat → Bool := fun e => if e = d then A else F e
def ue (E : Nat → Bool) (d : Nat) (x : Bool) : Nat → Bool := fun e => if e = d then x else E e
/-- one term, on heads, tails, empties and followers -/
def gst (t c d : Nat) (s : (Nat → Nat → Bool) × (Nat → Nat → Bool) × (Nat → Bool) × (Nat → Nat → Bool)) : (Nat → Nat → Bool) × (Nat → Nat → Bool) × (Nat → Bool) × (Nat → Nat → Bool) :=
  if t < 5 then (ub s.1 d (fun q => q == c), ub s.2.1 d (fun q => q == c), ue s.2.2.1 d false, s.2.2.2)
  else if t = 5 then (ub s.1 (d - 2) (fun q => s.1 (d - 2) q || (s.2.2.1 (d - 2) && s.1 (d - 1) q)), ub s.2.1 (d - 2) (fun q => s.2.1 (d - 1) q || (s.2.2.1 (d - 1) && s.2.1 (d - 2) q)), ue s.2.2.1 (d - 2) (s.2.2.1 (d - 2) && s.2.2.1 (d - 1)), fun p q => s.2.2.2 p q || (s.2.1 (d - 2) p && s.1 (d - 1) q))
  else if t = 6 then (ub s.1 (d - 2) (fun q => s.1 (d - 2) q || s.1 (d - 1) q), ub s.2.1 (d - 2) (fun q => s.2.1 (d - 2) q || s.2.1 (d - 1) q), ue s.2.2.1 (d - 2) (s.2.2.1 (d - 2) || s.2.2.1 (d - 1)), s.2.2.2)
  else if t = 7 then (s.1, s.2.1, ue s.2.2.1 (d - 1) true, fun p q => s.2.2.2 p q || (s.2.1 (d - 1) p && s.1 (d - 1) q))
  else if t = 8 then (s.1, s.2.1, s.2.2.1, fun p q => s.2.2.2 p q || (s.2.1 (d - 1) p && s.1 (d - 1) q))
  else (s.1, s.2.1, ue s.2.2.1 (d - 1) true, s.2.2.2)
def gl (tm : Nat → Nat) (b : Nat) (G0 : Nat → Nat → Bool) : Nat → (Nat → Nat → Bool) × (Nat → Nat → Bool) × (Nat → Bool) × (Nat → Nat → Bool)
  | 0 => (fun _ _ => false, fun _ _ => false, fun _ => false, G0)
  | k + 1 => gst (tm (b + k)) (b + k) (dp tm b k) (gl tm b G0 k)
def gG (tm sz : Nat → Nat) : Nat → Nat → Nat → Bool
  | 0 => fun _ _ => false
  | r + 1 => (gl tm (8 * r) (gG tm sz r) (sz r)).2.2.2
/-- the places that are reached behind m + 1 letters from i on -/
def Rn (G : Nat → Nat → Bool) (F : Nat → Bool) (rd : Nat → Nat → Prop) (i : Nat) : Nat → Nat → Prop
  | 0 => fun q => F q = true ∧ rd q i
  | m + 1 => fun q => ∃ p, Rn G F rd i m p ∧ G p q = true ∧ rd q (i + m + 1)
def gok (rd : Nat → Nat → Prop) (lo hi : Nat) (F T : Nat → Bool) (E : Bool) (G : Nat → Nat → Bool) (A : Nat → Nat → Prop) : Prop :=
  (∀ q, F q = true → lo ≤ q ∧ q < hi) ∧ (∀ q, T q = true → lo ≤ q ∧ q < hi) ∧ (∀ p q, lo ≤ p → p < hi → G p q = true → lo ≤ q ∧ q < hi) ∧
  (∀ i, A i i ↔ E = true) ∧ (∀ i j, A i j → i ≤ j) ∧ ∀ i m, (∃ q, Rn G F rd i m q ∧ T q = true) ↔ A i (i + m + 1)
theorem rn_in {G : Nat → Nat → Bool} {F : Nat → Bool} {rd : Nat → Nat → Prop} {lo hi : Nat} (hF : ∀ q, F q = true → lo ≤ q ∧ q < hi) (hG : ∀ p q, lo ≤ p → p < hi → G p q = true → lo ≤ q ∧ q < hi) {i : Nat} : ∀ m q, Rn G F rd i m q → lo ≤ q ∧ q < hi
  | 0, q, h => hF q h.1
  | m + 1, q, ⟨p, h1, h2, _⟩ => hG p q (rn_in hF hG m p h1).1 (rn_in hF hG m p h1).2 h2
theorem rn_loc {G G' : Nat → Nat → Bool} {F : Nat → Bool} {rd : Nat → Nat → Prop} {lo hi : Nat} (hF : ∀ q, F q = true → lo ≤ q ∧ q < hi) (hG : ∀ p q, lo ≤ p → p < hi → G p q = true → lo ≤ q ∧ q < hi) (hE : ∀ p q, lo ≤ p → p < hi → G p q = G' p q) {i : Nat} : ∀ m q, Rn G F rd i m q ↔ Rn G' F rd i m q
  | 0, q => Iff.rfl
  | m + 1, q => by
    constructor
    · rintro ⟨p, h1, h2, h3⟩
      have := rn_in hF hG m p h1
      exact ⟨p, (rn_loc hF hG hE m p).mp h1, by rw [← hE p q this.1 this.2]; exact h2, h3⟩
    · rintro ⟨p, h1, h2, h3⟩
      have h1' := (rn_loc hF hG hE m p).mpr h1
      have := rn_in hF hG m p h1'
      exact ⟨p, h1', by rw [hE p q this.1 this.2]; exact h2, h3⟩
theorem gok_loc {rd : Nat → Nat → Prop} {lo hi : Nat} {F T : Nat → Bool} {E : Bool} {G G' : Nat → Nat → Bool} {A : Nat → Nat → Prop} (h : gok rd lo hi F T E G A) (hE : ∀ p q, lo ≤ p → p < hi → G p q = G' p q) : gok rd lo hi F T E G' A := by
  obtain ⟨h1, h2, h3, h4, h5, h6⟩ := h
  refine ⟨h1, h2, fun p q a b c => h3 p q a b (by rw [hE p q a b]; exact c), h4, h5, fun i m => ?_⟩
  rw [← h6 i m]
  exact ⟨fun ⟨q, a, b⟩ => ⟨q, (rn_loc h1 h3 hE m q).mpr a, b⟩, fun ⟨q, a, b⟩ => ⟨q, (rn_loc h1 h3 hE m q).mp a, b⟩⟩
theorem gok_let {rd : Nat → Nat → Prop} {c : Nat} {G : Nat → Nat → Bool} {B : Nat → Prop} (hG : ∀ q, G c q = false) (hr : ∀ i, rd c i ↔ B i) :
    gok rd c (c + 1) (fun q => q == c) (fun q => q == c) false G (fun i j => j = i + 1 ∧ B i) := by
  refine ⟨fun q h => ?_, fun q h => ?_, fun p q a b h => ?_, fun i => ?_, fun i j h => by omega, fun i m => ?_⟩
  · have : q = c := by simpa using h
    omega
  · have : q = c := by simpa using h
    omega
  · have : p = c := by omega
    subst this
    rw [hG q] at h; exact absurd h (by decide)
  · exact ⟨fun h => by omega, fun h => absurd h (by decide)⟩
  · cases m with
    | zero =>
      constructor
      · rintro ⟨q, ⟨a, b⟩, _⟩
        have : q = c := by simpa using a
        subst this
        exact ⟨rfl, (hr i).mp b⟩
      · rintro ⟨_, b⟩
        exact ⟨c, ⟨by simp, (hr i).mpr b⟩, by simp⟩
    | succ m =>
      constructor
      · rintro ⟨q, ⟨p, a, b, _⟩, _⟩
        have k1 : ∀ q, (fun q => q == c) q = true → c ≤ q ∧ q < c + 1 := by
          intro q h
          have : q = c := by simpa using h
          omega
        have k2 : ∀ p q, c ≤ p → p < c + 1 → G p q = true → c ≤ q ∧ q < c + 1 := by
          intro p q a b h
          have : p = c := by omega
          subst this
          rw [hG q] at h; exact absurd h (by decide)
        have := rn_in (lo := c) (hi := c + 1) k1 k2 m p a
        have : p = c := by omega
        subst this
        rw [hG q] at b; exact absurd b (by decide)
      · rintro ⟨a, _⟩; omega
theorem rn_or {G : Nat → Nat → Bool} {F1 F2 : Nat → Bool} {rd : Nat → Nat → Prop} {i : Nat} : ∀ m q, Rn G (fun q => F1 q || F2 q) rd i m q ↔ (Rn G F1 rd i m q ∨ Rn G F2 rd i m q)
  | 0, q => by
    show ((F1 q || F2 q) = true ∧ _) ↔ _
    rw [Bool.or_eq_true]
    exact ⟨fun ⟨a, b⟩ => a.imp (fun z => ⟨z, b⟩) (fun z => ⟨z, b⟩), fun h => h.elim (fun z => ⟨Or.inl z.1, z.2⟩) (fun z => ⟨Or.inr z.1, z.2⟩)⟩
  | m + 1, q => by
    constructor
    · rintro ⟨p, a, b, c⟩
      exact ((rn_or m p).mp a).imp (fun z => ⟨p, z, b, c⟩) (fun z => ⟨p, z, b, c⟩)
    · rintro (⟨p, a, b, c⟩ | ⟨p, a, b, c⟩)
      · exact ⟨p, (rn_or m p).mpr (Or.inl a), b, c⟩
      · exact ⟨p, (rn_or m p).mpr (Or.inr a), b, c⟩
theorem gok_or {rd : Nat → Nat → Prop} {lo mi hi : Nat} {F1 F2 T1 T2 : Nat → Bool} {E1 E2 : Bool} {G : Nat → Nat → Bool} {A1 A2 : Nat → Nat → Prop} (hl : lo ≤ mi) (hh : mi ≤ hi) (h1 : gok rd lo mi F1 T1 E1 G A1) (h2 : gok rd mi hi F2 T2 E2 G A2) :
    gok rd lo hi (fun q => F1 q || F2 q) (fun q => T1 q || T2 q) (E1 || E2) G (fun i j => A1 i j ∨ A2 i j) := by
  obtain ⟨a1, a2, a3, a4, a5, a6⟩ := h1
  obtain ⟨b1, b2, b3, b4, b5, b6⟩ := h2
  refine ⟨fun q h => ?_, fun q h => ?_, fun p q x y h => ?_, fun i => ?_, fun i j h => h.elim (a5 i j) (b5 i j), fun i m => ?_⟩
  · rcases Bool.or_eq_true _ _ ▸ h with z | z
    · have := a1 q z; omega
    · have := b1 q z; omega
  · rcases Bool.or_eq_true _ _ ▸ h with z | z
    · have := a2 q z; omega
    · have := b2 q z; omega
  · rcases Nat.lt_or_ge p mi with z | z
    · have := a3 p q x z h; omega
    · have := b3 p q z y h; omega
  · dsimp only; rw [a4, b4, Bool.or_eq_true]
  · dsimp only; rw [← a6, ← b6]
    constructor
    · rintro ⟨q, a, b⟩
      rw [rn_or] at a
      rw [Bool.or_eq_true] at b
      rcases a with a | a
      · have i1 := rn_in a1 a3 m q a
        rcases b with b | b
        · exact Or.inl ⟨q, a, b⟩
        · have := b2 q b; omega
      · have i1 := rn_in b1 b3 m q a
        rcases b with b | b
        · have := a2 q b; omega
        · exact Or.inr ⟨q, a, b⟩
    · rintro (⟨q, a, b⟩ | ⟨q, a, b⟩)
      · exact ⟨q, (rn_or m q).mpr (Or.inl a), by rw [b, Bool.true_or]⟩
      · exact ⟨q, (rn_or m q).mpr (Or.inr a), by rw [b, Bool.or_true]⟩
/-- a chain: first the one, then the other -/
theorem rn_th {G : Nat → Nat → Bool} {F1 F2 T1 : Nat → Bool} {E1 : Bool} {rd : Nat → Nat → Prop} {lo mi hi : Nat} (hF1 : ∀ q, F1 q = true → lo ≤ q ∧ q < mi) (hT1 : ∀ q, T1 q = true → lo ≤ q ∧ q < mi) (hG1 : ∀ p q, lo ≤ p → p < mi → G p q = true → lo ≤ q ∧ q < mi)
    (hF2 : ∀ q, F2 q = true → mi ≤ q ∧ q < hi) (hG2 : ∀ p q, mi ≤ p → p < hi → G p q = true → mi ≤ q ∧ q < hi) {i : Nat} :
    ∀ m q, Rn (fun p q => G p q || (T1 p && F2 q)) (fun q => F1 q || (E1 && F2 q)) rd i m q ↔
      (Rn G F1 rd i m q ∨ (E1 = true ∧ Rn G F2 rd i m q) ∨ ∃ n, n < m ∧ (∃ p, Rn G F1 rd i n p ∧ T1 p = true) ∧ Rn G F2 rd (i + n + 1) (m - n - 1) q)
  | 0, q => by
    show ((F1 q || (E1 && F2 q)) = true ∧ rd q i) ↔ _
    rw [Bool.or_eq_true, Bool.and_eq_true]
    constructor
    · rintro ⟨a | ⟨a, b⟩, c⟩
      · exact Or.inl ⟨a, c⟩
      · exact Or.inr (Or.inl ⟨a, b, c⟩)
    · rintro (⟨a, c⟩ | ⟨a, b, c⟩ | ⟨n, a, _⟩)
      · exact ⟨Or.inl a, c⟩
      · exact ⟨Or.inr ⟨a, b⟩, c⟩
      · omega
  | m + 1, q => by
    constructor
    · rintro ⟨p, a, b, c⟩
      rw [Bool.or_eq_true, Bool.and_eq_true] at b
      rcases (rn_th hF1 hT1 hG1 hF2 hG2 m p).mp a with a | ⟨e, a⟩ | ⟨n, hn, ⟨p', a1, a2⟩, a⟩
      · rcases b with b | ⟨b1, b2⟩
        · exact Or.inl ⟨p, a, b, c⟩
        · refine Or.inr (Or.inr ⟨m, by omega, ⟨p, a, b1⟩, ?_⟩)
          rw [show m + 1 - m - 1 = 0 by omega]
          exact ⟨b2, c⟩
      · have hp := rn_in hF2 hG2 m p a
        rcases b with b | ⟨b1, b2⟩
        · exact Or.inr (Or.inl ⟨e, p, a, b, c⟩)
        · have := hT1 p b1; omega
      · have hp := rn_in hF2 hG2 _ p a
        rcases b with b | ⟨b1, b2⟩
        · refine Or.inr (Or.inr ⟨n, by omega, ⟨p', a1, a2⟩, ?_⟩)
          rw [show m + 1 - n - 1 = (m - n - 1) + 1 by omega]
          exact ⟨p, a, b, by rw [show i + n + 1 + (m - n - 1) + 1 = i + m + 1 by omega]; exact c⟩
        · have := hT1 p b1; omega
    · rintro (⟨p, a, b, c⟩ | ⟨e, p, a, b, c⟩ | ⟨n, hn, ⟨p', a1, a2⟩, a⟩)
      · exact ⟨p, (rn_th hF1 hT1 hG1 hF2 hG2 m p).mpr (Or.inl a), by dsimp only; rw [b, Bool.true_or], c⟩
      · exact ⟨p, (rn_th hF1 hT1 hG1 hF2 hG2 m p).mpr (Or.inr (Or.inl ⟨e, a⟩)), by dsimp only; rw [b, Bool.true_or], c⟩
      · rcases Nat.lt_or_ge n m with z | z
        · rw [show m + 1 - n - 1 = (m - n - 1) + 1 by omega] at a
          obtain ⟨p, b1, b2, b3⟩ := a
          rw [show i + n + 1 + (m - n - 1) + 1 = i + m + 1 by omega] at b3
          exact ⟨p, (rn_th hF1 hT1 hG1 hF2 hG2 m p).mpr (Or.inr (Or.inr ⟨n, z, ⟨p', a1, a2⟩, b1⟩)), by dsimp only; rw [b2, Bool.true_or], b3⟩
        · have e : n = m := by omega
          subst e
          rw [show n + 1 - n - 1 = 0 by omega] at a
          obtain ⟨b1, b2⟩ := a
          exact ⟨p', (rn_th hF1 hT1 hG1 hF2 hG2 n p').mpr (Or.inl a1), by dsimp only; rw [a2, b1]; simp, b2⟩
theorem gok_th {rd : Nat → Nat → Prop} {lo mi hi : Nat} {F1 F2 T1 T2 : Nat → Bool} {E1 E2 : Bool} {G : Nat → Nat → Bool} {A1 A2 : Nat → Nat → Prop} (hl : lo ≤ mi) (hh : mi ≤ hi) (h1 : gok rd lo mi F1 T1 E1 G A1) (h2 : gok rd mi hi F2 T2 E2 G A2) :
    gok rd lo hi (fun q => F1 q || (E1 && F2 q)) (fun q => T2 q || (E2 && T1 q)) (E1 && E2) (fun p q => G p q || (T1 p && F2 q)) (fun i j => ∃ m, i ≤ m ∧ m ≤ j ∧ A1 i m ∧ A2 m j) := by
  obtain ⟨a1, a2, a3, a4, a5, a6⟩ := h1
  obtain ⟨b1, b2, b3, b4, b5, b6⟩ := h2
  refine ⟨fun q h => ?_, fun q h => ?_, fun p q x y h => ?_, fun i => ?_, fun i j ⟨m, x, y, _⟩ => by omega, fun i m => ?_⟩
  · rw [Bool.or_eq_true, Bool.and_eq_true] at h
    rcases h with z | z
    · have := a1 q z; omega
    · have := b1 q z.2; omega
  · rw [Bool.or_eq_true, Bool.and_eq_true] at h
    rcases h with z | z
    · have := b2 q z; omega
    · have := a2 q z.2; omega
  · rw [Bool.or_eq_true, Bool.and_eq_true] at h
    rcases h with h | ⟨h, h'⟩
    · rcases Nat.lt_or_ge p mi with z | z
      · have := a3 p q x z h; omega
      · have := b3 p q z y h; omega
    · have := b1 q h'; omega
  · rw [Bool.and_eq_true, ← a4 i, ← b4 i]
    constructor
    · rintro ⟨m, x, y, z, w⟩
      have : m = i := by omega
      subst this; exact ⟨z, w⟩
    · rintro ⟨z, w⟩; exact ⟨i, by omega, by omega, z, w⟩
  · have key := fun q => rn_th (G := G) (E1 := E1) (rd := rd) (i := i) a1 a2 a3 b1 b3 m q
    constructor
    · rintro ⟨q, x, y⟩
      rw [Bool.or_eq_true, Bool.and_eq_true] at y
      rcases (key q).mp x with x | ⟨e, x⟩ | ⟨n, hn, x1, x⟩
      · have i1 := rn_in a1 a3 m q x
        rcases y with y | ⟨y1, y⟩
        · have := b2 q y; omega
        · exact ⟨i + m + 1, by omega, by omega, (a6 i m).mp ⟨q, x, y⟩, (b4 _).mpr y1⟩
      · have i1 := rn_in b1 b3 m q x
        rcases y with y | ⟨y1, y⟩
        · exact ⟨i, by omega, by omega, (a4 i).mpr e, (b6 i m).mp ⟨q, x, y⟩⟩
        · have := a2 q y; omega
      · have i1 := rn_in b1 b3 _ q x
        rcases y with y | ⟨y1, y⟩
        · refine ⟨i + n + 1, by omega, by omega, (a6 i n).mp x1, ?_⟩
          have := (b6 (i + n + 1) (m - n - 1)).mp ⟨q, x, y⟩
          rw [show i + n + 1 + (m - n - 1) + 1 = i + m + 1 by omega] at this
          exact this
        · have := a2 q y; omega
    · rintro ⟨k, x, y, z, w⟩
      by_cases c1 : k = i
      · subst c1
        obtain ⟨q, u, v⟩ := (b6 k m).mpr w
        exact ⟨q, (key q).mpr (Or.inr (Or.inl ⟨(a4 k).mp z, u⟩)), by dsimp only; rw [v, Bool.true_or]⟩
      · by_cases c2 : k = i + m + 1
        · subst c2
          obtain ⟨q, u, v⟩ := (a6 i m).mpr z
          exact ⟨q, (key q).mpr (Or.inl u), by dsimp only; rw [(b4 _).mp w, v]; simp⟩
        · rw [show k = i + (k - i - 1) + 1 by omega] at z
          obtain ⟨p, u, v⟩ := (a6 i (k - i - 1)).mpr z
          rw [show i + m + 1 = k + (i + m - k) + 1 by omega] at w
          obtain ⟨q, u', v'⟩ := (b6 k (i + m - k)).mpr w
          refine ⟨q, (key q).mpr (Or.inr (Or.inr ⟨k - i - 1, by omega, ⟨p, u, v⟩, ?_⟩)), by dsimp only; rw [v', Bool.true_or]⟩
          rw [show i + (k - i - 1) + 1 = k by omega, show m - (k - i - 1) - 1 = i + m - k by omega]
          exact u'
/-- chains of parts, cut at their last part -/
theorem pl_one {A : Nat → Nat → Prop} {i j : Nat} (h : i < j) (a : A i j) : pl A i j := ⟨1, j, h, Nat.le_refl _, a, Or.inl rfl⟩
theorem pl_cons {A : Nat → Nat → Prop} {i m j : Nat} (h : i < m) (hj : m ≤ j) (a : A i m) (b : pl A m j) : pl A i j := by
  obtain ⟨n, b⟩ := b
  exact ⟨n + 1, m, h, hj, a, Or.inr b⟩
theorem pl_lt {A : Nat → Nat → Prop} : ∀ n i j, pl_ A n i j → i < j
  | 0, _, _, h => absurd h id
  | n + 1, i, j, ⟨m, a, b, _⟩ => by omega
theorem pl_sn {A : Nat → Nat → Prop} {m j : Nat} (h : m < j) (a : A m j) : ∀ n i, pl_ A n i m → pl A i j
  | 0, _, b => absurd b id
  | n + 1, i, ⟨k, x, y, z, w⟩ => by
    rcases w with w | w
    · subst w; exact pl_cons x (by omega) z (pl_one h a)
    · exact pl_cons x (by omega) z (pl_sn h a n k w)
theorem pl_ri {A : Nat → Nat → Prop} {j : Nat} : ∀ n i, pl_ A n i j → A i j ∨ ∃ k, i < k ∧ k < j ∧ pl A i k ∧ A k j
  | 0, _, b => absurd b id
  | n + 1, i, ⟨k, x, y, z, w⟩ => by
    rcases w with w | w
    · subst w; exact Or.inl z
    · have hk := pl_lt n k j w
      rcases pl_ri n k w with a | ⟨k', a, b, c, d⟩
      · exact Or.inr ⟨k, x, hk, pl_one x z, a⟩
      · exact Or.inr ⟨k', by omega, b, pl_cons x (by omega) z c, d⟩
theorem rn_pl {G : Nat → Nat → Bool} {F T : Nat → Bool} {rd : Nat → Nat → Prop} {A : Nat → Nat → Prop} (hA : ∀ i m, (∃ q, Rn G F rd i m q ∧ T q = true) ↔ A i (i + m + 1)) {i : Nat} :
    ∀ m q, Rn (fun p q => G p q || (T p && F q)) F rd i m q ↔ (Rn G F rd i m q ∨ ∃ n, n < m ∧ pl A i (i + n + 1) ∧ Rn G F rd (i + n + 1) (m - n - 1) q)
  | 0, q => ⟨fun h => Or.inl h, fun h => h.elim id (fun ⟨n, a, _⟩ => absurd a (by omega))⟩
  | m + 1, q => by
    constructor
    · rintro ⟨p, a, b, c⟩
      rw [Bool.or_eq_true, Bool.and_eq_true] at b
      rcases (rn_pl hA m p).mp a with a | ⟨n, hn, a1, a⟩
      · rcases b with b | ⟨b1, b2⟩
        · exact Or.inl ⟨p, a, b, c⟩
        · refine Or.inr ⟨m, by omega, pl_one (by omega) ((hA i m).mp ⟨p, a, b1⟩), ?_⟩
          rw [show m + 1 - m - 1 = 0 by omega]; exact ⟨b2, c⟩
      · rcases b with b | ⟨b1, b2⟩
        · refine Or.inr ⟨n, by omega, a1, ?_⟩
          rw [show m + 1 - n - 1 = (m - n - 1) + 1 by omega]
          exact ⟨p, a, b, by rw [show i + n + 1 + (m - n - 1) + 1 = i + m + 1 by omega]; exact c⟩
        · have a2 := (hA (i + n + 1) (m - n - 1)).mp ⟨p, a, b1⟩
          rw [show i + n + 1 + (m - n - 1) + 1 = i + m + 1 by omega] at a2
          obtain ⟨w, a1⟩ := a1
          refine Or.inr ⟨m, by omega, pl_sn (by omega) a2 w i a1, ?_⟩
          rw [show m + 1 - m - 1 = 0 by omega]; exact ⟨b2, c⟩
    · rintro (⟨p, a, b, c⟩ | ⟨n, hn, a1, a⟩)
      · exact ⟨p, (rn_pl hA m p).mpr (Or.inl a), by dsimp only; rw [b, Bool.true_or], c⟩
      · rcases Nat.lt_or_ge n m with z | z
        · rw [show m + 1 - n - 1 = (m - n - 1) + 1 by omega] at a
          obtain ⟨p, b1, b2, b3⟩ := a
          rw [show i + n + 1 + (m - n - 1) + 1 = i + m + 1 by omega] at b3
          exact ⟨p, (rn_pl hA m p).mpr (Or.inr ⟨n, z, a1, b1⟩), by dsimp only; rw [b2, Bool.true_or], b3⟩
        · have e : n = m := by omega
          subst e
          rw [show n + 1 - n - 1 = 0 by omega] at a
          obtain ⟨b1, b2⟩ := a
          obtain ⟨w, a1⟩ := a1
          rcases pl_ri w i a1 with x | ⟨k, x1, x2, x3, x4⟩
          · obtain ⟨p, u, v⟩ := (hA i n).mpr x
            exact ⟨p, (rn_pl hA n p).mpr (Or.inl u), by dsimp only; rw [v, b1]; simp, b2⟩
          · rw [show i + n + 1 = k + (i + n - k) + 1 by omega] at x4
            obtain ⟨p, u, v⟩ := (hA k (i + n - k)).mpr x4
            refine ⟨p, (rn_pl hA n p).mpr (Or.inr ⟨k - i - 1, by omega, ?_, ?_⟩), by dsimp only; rw [v, b1]; simp, b2⟩
            · rw [show i + (k - i - 1) + 1 = k by omega]; exact x3
            · rw [show i + (k - i - 1) + 1 = k by omega, show n - (k - i - 1) - 1 = i + n - k by omega]; exact u
theorem gok_pl {rd : Nat → Nat → Prop} {lo hi : Nat} {F T : Nat → Bool} {E : Bool} {G : Nat → Nat → Bool} {A : Nat → Nat → Prop} (h : gok rd lo hi F T E G A) (E' : Bool) (A' : Nat → Nat → Prop) (h0 : ∀ i, A' i i ↔ E' = true) (h1 : ∀ i j, A' i j → i ≤ j) (h2 : ∀ i j, i < j → (A' i j ↔ pl A i j)) :
    gok rd lo hi F T E' (fun p q => G p q || (T p && F q)) A' := by
  obtain ⟨a1, a2, a3, a4, a5, a6⟩ := h
  refine ⟨a1, a2, fun p q x y h => ?_, h0, h1, fun i m => ?_⟩
  · rw [Bool.or_eq_true, Bool.and_eq_true] at h
    rcases h with h | ⟨_, h⟩
    · exact a3 p q x y h
    · exact a1 q h
  · rw [h2 i _ (by omega)]
    constructor
    · rintro ⟨q, x, y⟩
      rcases (rn_pl a6 m q).mp x with x | ⟨n, hn, x1, x⟩
      · exact pl_one (by omega) ((a6 i m).mp ⟨q, x, y⟩)
      · have a2 := (a6 (i + n + 1) (m - n - 1)).mp ⟨q, x, y⟩
        rw [show i + n + 1 + (m - n - 1) + 1 = i + m + 1 by omega] at a2
        obtain ⟨w, x1⟩ := x1
        exact pl_sn (by omega) a2 w i x1
    · rintro ⟨w, x1⟩
      rcases pl_ri w i x1 with x | ⟨k, y1, y2, y3, y4⟩
      · obtain ⟨q, u, v⟩ := (a6 i m).mpr x
        exact ⟨q, (rn_pl a6 m q).mpr (Or.inl u), v⟩
      · rw [show i + m + 1 = k + (i + m - k) + 1 by omega] at y4
        obtain ⟨q, u, v⟩ := (a6 k (i + m - k)).mpr y4
        refine ⟨q, (rn_pl a6 m q).mpr (Or.inr ⟨k - i - 1, by omega, ?_, ?_⟩), v⟩
        · rw [show i + (k - i - 1) + 1 = k by omega]; exact y3
        · rw [show i + (k - i - 1) + 1 = k by omega, show m - (k - i - 1) - 1 = i + m - k by omega]; exact u
theorem gok_em {rd : Nat → Nat → Prop} {lo hi : Nat} {F T : Nat → Bool} {E : Bool} {G : Nat → Nat → Bool} {A : Nat → Nat → Prop} (h : gok rd lo hi F T E G A) : gok rd lo hi F T true G (fun i j => i = j ∨ A i j) := by
  obtain ⟨a1, a2, a3, a4, a5, a6⟩ := h
  refine ⟨a1, a2, a3, fun i => ⟨fun _ => rfl, fun _ => Or.inl rfl⟩, fun i j h => h.elim (fun z => by omega) (a5 i j), fun i m => ?_⟩
  rw [a6]
  exact ⟨fun z => Or.inr z, fun z => z.elim (fun y => by omega) id⟩
end
section
/-! places: the stack of expressions, and all rules together -/
theorem gok_hi {rd : Nat → Nat → Prop} {lo hi hi' : Nat} {F T : Nat → Bool} {E : Bool} {G : Nat → Nat → Bool} {A : Nat → Nat → Prop} (h : gok rd lo hi F T E G A) (hh : hi ≤ hi') (hG : ∀ p q, hi ≤ p → p < hi' → G p q = false) : gok rd lo hi' F T E G A := by
  obtain ⟨a1, a2, a3, a4, a5, a6⟩ := h
  refine ⟨fun q h => ?_, fun q h => ?_, fun p q x y h => ?_, a4, a5, a6⟩
  · have := a1 q h; omega
  · have := a2 q h; omega
  · rcases Nat.lt_or_ge p hi with z | z
    · have := a3 p q x z h; omega
    · rw [hG p q z y] at h; exact absurd h (by decide)
theorem gok_cg {rd : Nat → Nat → Prop} {lo hi : Nat} {F T : Nat → Bool} {E : Bool} {G : Nat → Nat → Bool} {A B : Nat → Nat → Prop} (h : gok rd lo hi F T E G A) (e : ∀ i j, A i j ↔ B i j) : gok rd lo hi F T E G B := by
  obtain ⟨a1, a2, a3, a4, a5, a6⟩ := h
  exact ⟨a1, a2, a3, fun i => (e i i).symm.trans (a4 i), fun i j h => a5 i j ((e i j).mpr h), fun i m => (a6 i m).trans (e _ _)⟩
theorem lo_mono {lo : Nat → Nat} {d : Nat} (h : ∀ e, e < d → lo e ≤ lo (e + 1)) {e : Nat} : ∀ x, e + x ≤ d → lo e ≤ lo (e + x)
  | 0, _ => Nat.le_refl _
  | x + 1, hx => Nat.le_trans (lo_mono h x (by omega)) (h (e + x) (by omega))
theorem tk_c (t : Nat) : (t < 5 → tk t = 0) ∧ (t = 5 ∨ t = 6 → tk t = 2) ∧ (7 ≤ t → tk t = 1) := by
  unfold tk
  refine ⟨fun h => if_pos h, fun h => ?_, fun h => ?_⟩
  · rw [if_neg (by omega), if_pos (by omega)]
  · rw [if_neg (by omega), if_neg (by omega)]
def rdp (tm tl : Nat → Nat) (q i : Nat) : Prop := tm q = 4 ∨ tl i = tm q
theorem gl_inv {tm tl : Nat → Nat} {b n : Nat} {G0 : Nat → Nat → Bool} (hw : ∀ k, k < n → tk (tm (b + k)) ≤ dp tm b k) (ht : ∀ k, tm k < 10) (hG0 : ∀ p q, b ≤ p → G0 p q = false) :
    ∀ k, k ≤ n → ∃ lo : Nat → Nat, lo 0 = b ∧ lo (dp tm b k) = b + k ∧ (∀ e, e < dp tm b k → lo e ≤ lo (e + 1)) ∧
      (∀ e, e < dp tm b k → gok (rdp tm tl) (lo e) (lo (e + 1)) ((gl tm b G0 k).1 e) ((gl tm b G0 k).2.1 e) ((gl tm b G0 k).2.2.1 e) (gl tm b G0 k).2.2.2 (ev tl tm b k e)) ∧
      (∀ p q, (p < b ∨ b + k ≤ p) → (gl tm b G0 k).2.2.2 p q = G0 p q) := by
  intro k
  induction k with
  | zero => intro _; exact ⟨fun _ => b, rfl, rfl, fun e h => absurd h (Nat.not_lt_zero _), fun e h => absurd h (Nat.not_lt_zero _), fun p q _ => rfl⟩
  | succ k ih =>
    intro hk
    obtain ⟨lo, l0, ld, lm, lg_, lu⟩ := ih (by omega)
    have htk := hw k (by omega)
    have ht10 := ht (b + k)
    have hc := tk_c (tm (b + k))
    have hdp : dp tm b (k + 1) = dp tm b k + 1 - tk (tm (b + k)) := rfl
    have hev : ev tl tm b (k + 1) = sm tl (tm (b + k)) (dp tm b k) (ev tl tm b k) := rfl
    have hgl : gl tm b G0 (k + 1) = gst (tm (b + k)) (b + k) (dp tm b k) (gl tm b G0 k) := rfl
    rw [hdp, hev, hgl]
    generalize dp tm b k = d at *
    generalize gl tm b G0 k = s at *
    generalize ev tl tm b k = A at *
    obtain ⟨F, T, E, G⟩ := s
    dsimp only at lg_ lu
    have fresh : ∀ p q, b + k ≤ p → G p q = false := fun p q h => by rw [lu p q (Or.inr h)]; exact hG0 p q (by omega)
    generalize et : tm (b + k) = t at *
    have mono : ∀ e e', e ≤ e' → e' ≤ d → lo e ≤ lo e' := fun e e' h1 h2 => by
      have := lo_mono lm (e := e) (e' - e) (by omega)
      rwa [show e + (e' - e) = e' by omega] at this
    by_cases c0 : t < 5
    · have e0 := hc.1 c0
      rw [e0, Nat.sub_zero]
      unfold gst sm
      rw [if_pos c0, if_pos c0]
      refine ⟨fun e => if e = d + 1 then b + k + 1 else lo e, ?_, ?_, fun e he => ?_, fun e he => ?_, fun p q h => lu p q (by omega)⟩
      · dsimp only; rw [if_neg (by omega)]; exact l0
      · dsimp only; rw [if_pos rfl]; rfl
      · dsimp only
        rw [if_neg (by omega)]
        by_cases c : e = d
        · subst c; rw [if_pos rfl, ld]; omega
        · rw [if_neg (by omega)]; exact lm e (by omega)
      · dsimp only
        rw [if_neg (show ¬ e = d + 1 by omega)]
        unfold ub ue us
        by_cases c : e = d
        · subst c
          simp only [if_true]
          rw [ld]
          refine gok_let (fun q => fresh _ q (by omega)) (fun i => ?_)
          unfold rdp; rw [et]
        · rw [if_neg (show ¬ e + 1 = d + 1 by omega)]
          simp only [c, if_false]
          exact lg_ e (by omega)
    by_cases c2 : t = 5 ∨ t = 6
    · have e2 := hc.2.1 c2
      have hd2 : 2 ≤ d := by omega
      have g1 := lg_ (d - 2) (by omega)
      have g2 := lg_ (d - 1) (by omega)
      rw [show d - 2 + 1 = d - 1 by omega] at g1
      rw [show d - 1 + 1 = d by omega, ld] at g2
      have m1 := lm (d - 2) (by omega)
      rw [show d - 2 + 1 = d - 1 by omega] at m1
      have m2 := lm (d - 1) (by omega)
      rw [show d - 1 + 1 = d by omega, ld] at m2
      rw [e2]
      refine ⟨fun e => if e = d - 1 then b + k + 1 else lo e, ?_, ?_, fun e he => ?_, fun e he => ?_, fun p q h => ?_⟩
      · dsimp only; rw [if_neg (by omega)]; exact l0
      · dsimp only; rw [if_pos (by omega)]; rfl
      · dsimp only
        rw [if_neg (by omega)]
        by_cases c : e + 1 = d - 1
        · rw [if_pos c]
          have := mono e d (by omega) (by omega)
          rw [ld] at this; omega
        · rw [if_neg c]; exact lm e (by omega)
      · dsimp only
        rw [if_neg (show ¬ e = d - 1 by omega)]
        by_cases c : e = d - 2
        · subst c
          rw [if_pos (show d - 2 + 1 = d - 1 by omega)]
          unfold gst sm ub ue us
          rcases c2 with c5 | c6
          · rw [if_neg c0, if_pos c5, if_neg c0, if_pos c5]
            simp only [if_true]
            refine gok_hi (gok_th m1 m2 g1 g2) (by omega) (fun p q x y => ?_)
            rw [fresh p q x]
            have : T (d - 2) p = false := by
              cases h : T (d - 2) p with
              | false => rfl
              | true => have := g1.2.1 p h; omega
            rw [this]; rfl
          · rw [if_neg c0, if_neg (by omega), if_pos c6, if_neg c0, if_neg (by omega), if_pos c6]
            simp only [if_true]
            exact gok_hi (gok_or m1 m2 g1 g2) (by omega) (fun p q x y => fresh p q x)
        · rw [if_neg (show ¬ e + 1 = d - 1 by omega)]
          unfold gst sm ub ue us
          rcases c2 with c5 | c6
          · rw [if_neg c0, if_pos c5, if_neg c0, if_pos c5]
            simp only [c, if_false]
            refine gok_loc (lg_ e (by omega)) (fun p q x y => ?_)
            have : T (d - 2) p = false := by
              cases h : T (d - 2) p with
              | false => rfl
              | true =>
                have := g1.2.1 p h
                have := mono (e + 1) (d - 2) (by omega) (by omega)
                omega
            rw [this]; simp
          · rw [if_neg c0, if_neg (by omega), if_pos c6, if_neg c0, if_neg (by omega), if_pos c6]
            simp only [c, if_false]
            exact lg_ e (by omega)
      · unfold gst
        rcases c2 with c5 | c6
        · rw [if_neg c0, if_pos c5]
          dsimp only
          have : T (d - 2) p = false := by
            cases h : T (d - 2) p with
            | false => rfl
            | true =>
              have := g1.2.1 p h
              have := mono 0 (d - 2) (by omega) (by omega)
              omega
          rw [this, lu p q (by omega)]; simp
        · rw [if_neg c0, if_neg (by omega), if_pos c6]
          exact lu p q (by omega)
    have n5 : ¬ t = 5 := fun z => c2 (Or.inl z)
    have n6 : ¬ t = 6 := fun z => c2 (Or.inr z)
    have e1 := hc.2.2 (by omega)
    have hd1 : 1 ≤ d := by omega
    have g1 := lg_ (d - 1) (by omega)
    rw [show d - 1 + 1 = d by omega, ld] at g1
    have m1 := lm (d - 1) (by omega)
    rw [show d - 1 + 1 = d by omega, ld] at m1
    rw [e1, Nat.add_sub_cancel]
    have hno : ∀ p, (p < lo (d - 1) ∨ b + k ≤ p) → T (d - 1) p = false := by
      intro p hp
      cases h : T (d - 1) p with
      | false => rfl
      | true => have := g1.2.1 p h; omega
    refine ⟨fun e => if e = d then b + k + 1 else lo e, ?_, ?_, fun e he => ?_, fun e he => ?_, fun p q h => ?_⟩
    · dsimp only; rw [if_neg (by omega)]; exact l0
    · dsimp only; rw [if_pos rfl]; rfl
    · dsimp only
      rw [if_neg (by omega)]
      by_cases c : e + 1 = d
      · rw [if_pos c]
        have := mono e d (by omega) (by omega)
        rw [ld] at this; omega
      · rw [if_neg c]; exact lm e (by omega)
    · dsimp only
      rw [if_neg (show ¬ e = d by omega)]
      by_cases c : e = d - 1
      · subst c
        rw [if_pos (show d - 1 + 1 = d by omega)]
        unfold gst sm ub ue us
        rw [if_neg c0, if_neg c0, if_neg n5, if_neg n5, if_neg n6, if_neg n6]
        by_cases c7 : t = 7
        · rw [if_pos c7, if_pos c7]
          simp only [if_true]
          refine gok_hi (gok_pl g1 true _ (fun i => ⟨fun _ => rfl, fun _ => Or.inl rfl⟩) (fun i j h => ?_) (fun i j h => ⟨fun z => z.resolve_left (by omega), fun z => Or.inr z⟩)) (by omega) (fun p q x y => ?_)
          · rcases h with h | ⟨w, h⟩
            · omega
            · have := pl_lt w i j h; omega
          · rw [fresh p q x, hno p (Or.inr x)]; rfl
        rw [if_neg c7, if_neg c7]
        by_cases c8 : t = 8
        · rw [if_pos c8, if_pos c8]
          simp only [if_true]
          refine gok_hi (gok_pl g1 (E (d - 1)) _ (fun i => ⟨fun z => ?_, fun z => Or.inl ((g1.2.2.2.1 i).mpr z)⟩) (fun i j h => ?_) (fun i j h => ⟨fun z => z.elim (fun y => pl_one h y) id, fun z => Or.inr z⟩)) (by omega) (fun p q x y => ?_)
          · rcases z with z | ⟨w, z⟩
            · exact (g1.2.2.2.1 i).mp z
            · have := pl_lt w i i z; omega
          · rcases h with h | ⟨w, h⟩
            · exact g1.2.2.2.2.1 i j h
            · have := pl_lt w i j h; omega
          · rw [fresh p q x, hno p (Or.inr x)]; rfl
        rw [if_neg c8, if_neg c8]
        simp only [if_true]
        exact gok_hi (gok_em g1) (by omega) (fun p q x y => fresh p q x)
      · rw [if_neg (show ¬ e + 1 = d by omega)]
        have hle : lo (e + 1) ≤ lo (d - 1) := mono (e + 1) (d - 1) (by omega) (by omega)
        have ge := lg_ e (by omega)
        have gx : gok (rdp tm tl) (lo e) (lo (e + 1)) (F e) (T e) (E e) (fun p q => G p q || (T (d - 1) p && F (d - 1) q)) (A e) := gok_loc ge (fun p q x y => by rw [hno p (Or.inl (by omega))]; simp)
        unfold gst sm ub ue us
        rw [if_neg c0, if_neg c0, if_neg n5, if_neg n5, if_neg n6, if_neg n6]
        by_cases c7 : t = 7
        · rw [if_pos c7, if_pos c7]
          simp only [c, if_false]
          exact gx
        rw [if_neg c7, if_neg c7]
        by_cases c8 : t = 8
        · rw [if_pos c8, if_pos c8]
          simp only [c, if_false]
          exact gx
        rw [if_neg c8, if_neg c8]
        simp only [c, if_false]
        exact ge
    · have hl0 : lo 0 ≤ lo (d - 1) := mono 0 (d - 1) (by omega) (by omega)
      unfold gst
      rw [if_neg c0, if_neg n5, if_neg n6]
      by_cases c7 : t = 7
      · rw [if_pos c7]
        dsimp only
        rw [hno p (by omega), lu p q (by omega)]; simp
      rw [if_neg c7]
      by_cases c8 : t = 8
      · rw [if_pos c8]
        dsimp only
        rw [hno p (by omega), lu p q (by omega)]; simp
      rw [if_neg c8]
      exact lu p q (by omega)
/-- heads, tails and followers are letters of the rule -/
theorem gl_sup {tm : Nat → Nat} {b : Nat} {G0 : Nat → Nat → Bool} : ∀ k, (∀ e q, (gl tm b G0 k).1 e q = true → b ≤ q ∧ q < b + k ∧ tm q < 5) ∧ (∀ e q, (gl tm b G0 k).2.1 e q = true → b ≤ q ∧ q < b + k ∧ tm q < 5) ∧
    (∀ p q, (gl tm b G0 k).2.2.2 p q = true → G0 p q = true ∨ ((b ≤ p ∧ p < b + k ∧ tm p < 5) ∧ (b ≤ q ∧ q < b + k ∧ tm q < 5))) := by
  intro k
  induction k with
  | zero => exact ⟨fun e q h => absurd h (show ¬ (false = true) by decide), fun e q h => absurd h (show ¬ (false = true) by decide), fun p q h => Or.inl h⟩
  | succ k ih =>
    have hgl : gl tm b G0 (k + 1) = gst (tm (b + k)) (b + k) (dp tm b k) (gl tm b G0 k) := rfl
    rw [hgl]
    generalize dp tm b k = d at *
    generalize gl tm b G0 k = s at *
    obtain ⟨F, T, E, G⟩ := s
    obtain ⟨h1, h2, h3⟩ := ih
    dsimp only at h1 h2 h3
    have w1 : ∀ e q, F e q = true → b ≤ q ∧ q < b + (k + 1) ∧ tm q < 5 := fun e q h => by have := h1 e q h; omega
    have w2 : ∀ e q, T e q = true → b ≤ q ∧ q < b + (k + 1) ∧ tm q < 5 := fun e q h => by have := h2 e q h; omega
    have w3 : ∀ p q, G p q = true → G0 p q = true ∨ ((b ≤ p ∧ p < b + (k + 1) ∧ tm p < 5) ∧ (b ≤ q ∧ q < b + (k + 1) ∧ tm q < 5)) := fun p q h => (h3 p q h).imp id (fun z => by omega)
    have w4 : ∀ e e' p q, (G p q || (T e p && F e' q)) = true → G0 p q = true ∨ ((b ≤ p ∧ p < b + (k + 1) ∧ tm p < 5) ∧ (b ≤ q ∧ q < b + (k + 1) ∧ tm q < 5)) := by
      intro e e' p q h
      rw [Bool.or_eq_true, Bool.and_eq_true] at h
      rcases h with h | ⟨x, y⟩
      · exact w3 p q h
      · exact Or.inr ⟨w2 e p x, w1 e' q y⟩
    unfold gst ub
    by_cases c0 : tm (b + k) < 5
    · rw [if_pos c0]
      refine ⟨fun e q h => ?_, fun e q h => ?_, w3⟩
      · dsimp only at h
        split at h
        · have : q = b + k := by simpa using h
          subst this; omega
        · exact w1 e q h
      · dsimp only at h
        split at h
        · have : q = b + k := by simpa using h
          subst this; omega
        · exact w2 e q h
    rw [if_neg c0]
    by_cases c5 : tm (b + k) = 5
    · rw [if_pos c5]
      refine ⟨fun e q h => ?_, fun e q h => ?_, w4 _ _⟩
      · dsimp only at h
        split at h
        · rw [Bool.or_eq_true, Bool.and_eq_true] at h
          exact h.elim (w1 _ q) (fun z => w1 _ q z.2)
        · exact w1 e q h
      · dsimp only at h
        split at h
        · rw [Bool.or_eq_true, Bool.and_eq_true] at h
          exact h.elim (w2 _ q) (fun z => w2 _ q z.2)
        · exact w2 e q h
    rw [if_neg c5]
    by_cases c6 : tm (b + k) = 6
    · rw [if_pos c6]
      refine ⟨fun e q h => ?_, fun e q h => ?_, w3⟩
      · dsimp only at h
        split at h
        · rw [Bool.or_eq_true] at h
          exact h.elim (w1 _ q) (w1 _ q)
        · exact w1 e q h
      · dsimp only at h
        split at h
        · rw [Bool.or_eq_true] at h
          exact h.elim (w2 _ q) (w2 _ q)
        · exact w2 e q h
    rw [if_neg c6]
    by_cases c7 : tm (b + k) = 7
    · rw [if_pos c7]; exact ⟨w1, w2, w4 _ _⟩
    rw [if_neg c7]
    by_cases c8 : tm (b + k) = 8
    · rw [if_pos c8]; exact ⟨w1, w2, w4 _ _⟩
    rw [if_neg c8]; exact ⟨w1, w2, w3⟩
def FR (tm sz : Nat → Nat) (r q : Nat) : Bool := decide (0 < sz r) && (gl tm (8 * r) (gG tm sz r) (sz r)).1 0 q
def TR (tm sz : Nat → Nat) (r q : Nat) : Bool := decide (0 < sz r) && (gl tm (8 * r) (gG tm sz r) (sz r)).2.1 0 q
def sta (tm sz : Nat → Nat) : Nat → Nat → Bool
  | 0 => fun _ => false
  | r + 1 => fun q => sta tm sz r q || FR tm sz r q
/-- the rules are well formed, their terms and lengths within -/
def rwf (tm sz : Nat → Nat) : Prop := (∀ k, tm k < 10) ∧ (∀ r, sz r ≤ 8) ∧ ∀ r, r < 4 → wf_ tm (8 * r) (sz r)
theorem gG_f {tm sz : Nat → Nat} (h : ∀ r, sz r ≤ 8) : ∀ r p q, 8 * r ≤ p → gG tm sz r p q = false
  | 0, p, q, _ => rfl
  | r + 1, p, q, hp => by
    cases hh : gG tm sz (r + 1) p q with
    | false => rfl
    | true =>
      have h8 := h r
      rcases (gl_sup (tm := tm) (b := 8 * r) (G0 := gG tm sz r) (sz r)).2.2 p q hh with z | z
      · rw [gG_f h r p q (by omega)] at z; exact absurd z (by decide)
      · omega
theorem gG_l {tm sz : Nat → Nat} (h : rwf tm sz) : ∀ x r p q, r + 1 + x ≤ 4 → p < 8 * (r + 1) → gG tm sz (r + 1 + x) p q = gG tm sz (r + 1) p q
  | 0, r, p, q, _, _ => rfl
  | x + 1, r, p, q, hx, hp => by
    rw [← gG_l h x r p q (by omega) hp]
    obtain ⟨lo, -, -, -, -, lu⟩ := gl_inv (tl := fun _ => 0) (n := sz (r + 1 + x)) (G0 := gG tm sz (r + 1 + x)) (h.2.2 (r + 1 + x) (by omega)).1 h.1 (fun p q hp => gG_f h.2.1 _ p q hp) (sz (r + 1 + x)) (Nat.le_refl _)
    exact lu p q (Or.inl (by omega))
theorem gok_rule {tm sz tl : Nat → Nat} (h : rwf tm sz) {r : Nat} (hr : r < 4) : ∃ E, gok (rdp tm tl) (8 * r) (8 * r + 8) (FR tm sz r) (TR tm sz r) E (gG tm sz 4) (lg tl tm sz r) := by
  have h8 := h.2.1 r
  obtain ⟨lo, l0, ld, lm, lgo, lu⟩ := gl_inv (tl := tl) (n := sz r) (G0 := gG tm sz r) (h.2.2 r hr).1 h.1 (fun p q hp => gG_f h.2.1 _ p q hp) (sz r) (Nat.le_refl _)
  have e4 : ∀ p q, p < 8 * (r + 1) → gG tm sz 4 p q = gG tm sz (r + 1) p q := fun p q hp => by
    have := gG_l h (3 - r) r p q (by omega) hp
    rwa [show r + 1 + (3 - r) = 4 by omega] at this
  have fresh : ∀ p q, 8 * r + sz r ≤ p → p < 8 * (r + 1) → gG tm sz 4 p q = false := fun p q h1 h2 => by
    rw [e4 p q h2]
    exact (lu p q (Or.inr h1)).trans (gG_f h.2.1 r p q (by omega))
  rcases (h.2.2 r hr).2 with z | z
  · refine ⟨false, fun q hq => ?_, fun q hq => ?_, fun p q x y hq => ?_, fun i => ?_, fun i j hq => ?_, fun i m => ?_⟩
    · unfold FR at hq; rw [z] at hq; simp at hq
    · unfold TR at hq; rw [z] at hq; simp at hq
    · rw [fresh p q (by omega) (by omega)] at hq; exact absurd hq (by decide)
    · exact ⟨fun y => absurd y.1 (by omega), fun y => absurd y (by decide)⟩
    · exact absurd hq.1 (by omega)
    · refine ⟨fun ⟨q, _, y⟩ => ?_, fun y => absurd y.1 (by omega)⟩
      unfold TR at y; rw [z] at y; simp at y
  · have k0 : 0 < sz r := by
      rcases Nat.eq_zero_or_pos (sz r) with y | y
      · rw [y] at z; exact absurd z (by show ¬ (0 = 1); decide)
      · exact y
    have g := lgo 0 (by omega)
    rw [l0] at g
    rw [z] at ld
    rw [ld] at g
    have eF : FR tm sz r = (gl tm (8 * r) (gG tm sz r) (sz r)).1 0 := by funext q; unfold FR; simp [k0]
    have eT : TR tm sz r = (gl tm (8 * r) (gG tm sz r) (sz r)).2.1 0 := by funext q; unfold TR; simp [k0]
    have g2 := gok_cg g (B := lg tl tm sz r) (fun i j => ⟨fun y => ⟨k0, y⟩, fun y => y.2⟩)
    rw [← eF, ← eT] at g2
    have g3 := gok_loc g2 (G' := gG tm sz 4) (fun p q x y => (e4 p q (by omega)).symm)
    exact ⟨_, gok_hi g3 (by omega) (fun p q x y => fresh p q x (by omega))⟩
theorem rn_st {tm sz : Nat → Nat} {G : Nat → Nat → Bool} {rd : Nat → Nat → Prop} {i m q : Nat} : ∀ R, Rn G (sta tm sz R) rd i m q ↔ ∃ r, r < R ∧ Rn G (FR tm sz r) rd i m q
  | 0 => by
    constructor
    · intro h
      exfalso
      have : ∀ m q, ¬ Rn G (sta tm sz 0) rd i m q := by
        intro m
        induction m with
        | zero => intro q h; exact absurd h.1 (show ¬ (false = true) by decide)
        | succ m ih => rintro q ⟨p, a, _⟩; exact ih p a
      exact this m q h
    · rintro ⟨r, h, _⟩; omega
  | R + 1 => by
    show Rn G (fun q => sta tm sz R q || FR tm sz R q) rd i m q ↔ _
    rw [rn_or, rn_st R]
    constructor
    · rintro (⟨r, a, b⟩ | a)
      · exact ⟨r, by omega, b⟩
      · exact ⟨R, by omega, a⟩
    · rintro ⟨r, a, b⟩
      by_cases c : r = R
      · subst c; exact Or.inr b
      · exact Or.inl ⟨r, by omega, b⟩
/-- the automaton of places reads just what the rules stand for -/
theorem glu {tm sz tl : Nat → Nat} (h : rwf tm sz) {r : Nat} (hr : r < 4) (i m : Nat) : (∃ q, Rn (gG tm sz 4) (sta tm sz 4) (rdp tm tl) i m q ∧ TR tm sz r q = true) ↔ lg tl tm sz r i (i + m + 1) := by
  obtain ⟨E, g⟩ := gok_rule (tl := tl) h hr
  rw [← g.2.2.2.2.2 i m]
  constructor
  · rintro ⟨q, a, b⟩
    obtain ⟨r', hr', a⟩ := (rn_st 4).mp a
    obtain ⟨E', g'⟩ := gok_rule (tl := tl) h hr'
    have h1 := rn_in g'.1 g'.2.2.1 m q a
    have h2 := g.2.1 q b
    have : r' = r := by omega
    subst this
    exact ⟨q, a, b⟩
  · rintro ⟨q, a, b⟩
    exact ⟨q, (rn_st 4).mpr ⟨r, hr, a⟩, b⟩
end
section
/-! the reference's places -/
def b2 (x : Bool) : Int32 := if x then 1 else 0
theorem b2_0 {x : Bool} : b2 x = 0 ↔ x = false := by cases x <;> decide
def RYs (s : (Nat → Nat → Bool) × (Nat → Nat → Bool) × (Nat → Bool) × (Nat → Nat → Bool)) (d : Nat) (fi la : Nat → Int64) (no : Nat → Int32) (fo : Nat → Int64) : Prop :=
  (∀ e, e < d → ∀ q, bl (fi e) q = s.1 e q) ∧ (∀ e, e < d → ∀ q, bl (la e) q = s.2.1 e q) ∧ (∀ e, e < d → no e = b2 (s.2.2.1 e)) ∧ (∀ p, p < 32 → ∀ q, bl (fo p) q = s.2.2.2 p q)
theorem ul_s {f : Nat → Int64} {k : Nat} {x : Int64} : vp_updL f k x k = x := if_pos rfl
theorem ul_n {f : Nat → Int64} {k j : Nat} {x : Int64} (h : j ≠ k) : vp_updL f k x j = f j := if_neg h
section
variable {g_productions : Int32} {g_start : Int64} {g_sets g_states g_conflicts g_ready g_length g_tokens g_stuck g_scanned g_value g_place : Int32} {b_term b_size b_skipped b_left b_right b_width b_op b_constant b_rank b_grouping b_bTerm b_bSize b_bSkipped b_bLeft b_bWidth b_bOp b_bConstant : Nat → Int32} {b_follow b_ends b_first b_last : Nat → Int64} {b_none : Nat → Int32} {b_set : Nat → Int64} {b_leads b_apart : Nat → Int32} {b_state : Nat → Int64} {b_to b_look b_begins b_nullable b_act b_built b_leadTo b_text b_fits b_token b_stack b_worth : Nat → Int32} {post : SY → Prop}
theorem yk_3 {x y : Int64} {f0 : Nat → Int64} (H : ∀ fo : Nat → Int64, (∀ p, p < 32 → ∀ q, bl (fo p) q = (bl (f0 p) q || (bl x p && bl y q))) → post (g_productions, g_start, g_sets, g_states, g_conflicts, g_ready, g_length, g_tokens, g_stuck, g_scanned, g_value, g_place, b_term, b_size, b_skipped, b_left, b_right, b_width, b_op, b_constant, b_rank, b_grouping, b_bTerm, b_bSize, b_bSkipped, b_bLeft, b_bWidth, b_bOp, b_bConstant, fo, b_ends, b_first, b_last, b_none, b_set, b_leads, b_apart, b_state, b_to, b_look, b_begins, b_nullable, b_act, b_built, b_leadTo, b_text, b_fits, b_token, b_stack, b_worth)) :
    ∀ d p (fo : Nat → Int64), p + d = 32 → (∀ k, k < p → ∀ q, bl (fo k) q = (bl (f0 k) q || (bl x k && bl y q))) → (∀ k, p ≤ k → fo k = f0 k) → wY_chain_3 post x y g_productions g_start g_sets g_states g_conflicts g_ready g_length g_tokens g_stuck g_scanned g_value g_place (d + 1) (nI p) b_term b_size b_skipped b_left b_right b_width b_op b_constant b_rank b_grouping b_bTerm b_bSize b_bSkipped b_bLeft b_bWidth b_bOp b_bConstant fo b_ends b_first b_last b_none b_set b_leads b_apart b_state b_to b_look b_begins b_nullable b_act b_built b_leadTo b_text b_fits b_token b_stack b_worth := by
  intro d
  induction d with
  | zero =>
    intro p fo hp h1 h2
    have : p = 32 := by omega
    subst this
    exact pk_le 32 32 (fun _ => H fo h1) (fun z => absurd z (by omega))
  | succ d ih =>
    intro p fo hp h1 h2
    have ip : vp_in (nI p) 32 := vp_in_nI (by omega) (by omega)
    refine pk_le 32 p (fun z => absurd z (by omega)) (fun _ => zb_b1 p (fun hb => ⟨ip, ip, ?_⟩) (fun hb => nm_r (nI_1 p) (ih (p + 1) fo (by omega) ?_ (fun k hk => h2 k (by omega)))))
    · rw [nI_clamp (show p < 2 ^ 31 by omega)]
      refine nm_e (nm_r (nI_1 p) (ih (p + 1) _ (by omega) ?_ ?_))
      · intro k hk q
        by_cases e : k = p
        · subst e; rw [ul_s, zb_or, h2 k (Nat.le_refl _), hb, Bool.true_and]
        · rw [ul_n e]; exact h1 k (by omega) q
      · intro k hk
        rw [ul_n (by omega)]; exact h2 k (by omega)
    · intro k hk q
      by_cases e : k = p
      · subst e; rw [h2 k (Nat.le_refl _), hb]; simp
      · exact h1 k (by omega) q
theorem yk_ {x y : Int64} (H : ∀ fo : Nat → Int64, (∀ p, p < 32 → ∀ q, bl (fo p) q = (bl (b_follow p) q || (bl x p && bl y q))) → post (g_productions, g_start, g_sets, g_states, g_conflicts, g_ready, g_length, g_tokens, g_stuck, g_scanned, g_value, g_place, b_term, b_size, b_skipped, b_left, b_right, b_width, b_op, b_constant, b_rank, b_grouping, b_bTerm, b_bSize, b_bSkipped, b_bLeft, b_bWidth, b_bOp, b_bConstant, fo, b_ends, b_first, b_last, b_none, b_set, b_leads, b_apart, b_state, b_to, b_look, b_begins, b_nullable, b_act, b_built, b_leadTo, b_text, b_fits, b_token, b_stack, b_worth)) : wpY_chain post (g_productions, g_start, g_sets, g_states, g_conflicts, g_ready, g_length, g_tokens, g_stuck, g_scanned, g_value, g_place, b_term, b_size, b_skipped, b_left, b_right, b_width, b_op, b_constant, b_rank, b_grouping, b_bTerm, b_bSize, b_bSkipped, b_bLeft, b_bWidth, b_bOp, b_bConstant, b_follow, b_ends, b_first, b_last, b_none, b_set, b_leads, b_apart, b_state, b_to, b_look, b_begins, b_nullable, b_act, b_built, b_leadTo, b_text, b_fits, b_token, b_stack, b_worth) x y :=
  ⟨33, yk_3 (f0 := b_follow) H 32 0 b_follow (by omega) (fun k hk => absurd hk (by omega)) (fun _ _ => rfl)⟩
theorem yg_ {x1 : Int32} {n t c d : Nat} {s : (Nat → Nat → Bool) × (Nat → Nat → Bool) × (Nat → Bool) × (Nat → Nat → Bool)} (ht : t < 10) (hc : c < 32) (hd : d ≤ 4) (htk : tk t ≤ d) (h : RYs s d b_first b_last b_none b_follow)
    (J : ∀ (fi la : Nat → Int64) (no : Nat → Int32) (fo : Nat → Int64), RYs (gst t c d s) (d + 1 - tk t) fi la no fo → wY_placesOf_7 post x1 n (nI (d + 1 - tk t)) (nI (c + 1)) g_productions g_start g_sets g_states g_conflicts g_ready g_length g_tokens g_stuck g_scanned g_value g_place b_term b_size b_skipped b_left b_right b_width b_op b_constant b_rank b_grouping b_bTerm b_bSize b_bSkipped b_bLeft b_bWidth b_bOp b_bConstant fo b_ends fi la no b_set b_leads b_apart b_state b_to b_look b_begins b_nullable b_act b_built b_leadTo b_text b_fits b_token b_stack b_worth) :
    wpY_takes (fun r_11 => ∀ x2_62, x2_62 = nI d - r_11 → ((5 ≤ nI t → (((nI t = 5 → (vp_in x2_62 8 ∧ (vp_in (x2_62 + 1) 8 ∧ (wpY_chain (fun u => match u with | (g_productions, g_start, g_sets, g_states, g_conflicts, g_ready, g_length, g_tokens, g_stuck, g_scanned, g_value, g_place, b_term, b_size, b_skipped, b_left, b_right, b_width, b_op, b_constant, b_rank, b_grouping, b_bTerm, b_bSize, b_bSkipped, b_bLeft, b_bWidth, b_bOp, b_bConstant, b_follow, b_ends, b_first, b_last, b_none, b_set, b_leads, b_apart, b_state, b_to, b_look, b_begins, b_nullable, b_act, b_built, b_leadTo, b_text, b_fits, b_token, b_stack, b_worth) => (vp_in x2_62 8 ∧ ((((b_none x2_62.toNatClampNeg) = 0 → (wY_placesOf_123 post (wY_placesOf_7 post x1 n) x1 x2_62 (nI c) g_productions g_start g_sets g_states g_conflicts g_ready g_length g_tokens g_stuck g_scanned g_value g_place b_term b_size b_skipped b_left b_right b_width b_op b_constant b_rank b_grouping b_bTerm b_bSize b_bSkipped b_bLeft b_bWidth b_bOp b_bConstant b_follow b_ends b_first b_last b_none b_set b_leads b_apart b_state b_to b_look b_begins b_nullable b_act b_built b_leadTo b_text b_fits b_token b_stack b_worth)) ∧ (¬ (b_none x2_62.toNatClampNeg) = 0 → (vp_in x2_62 8 ∧ (vp_in (x2_62 + 1) 8 ∧ (vp_in x2_62 8 ∧ ∀ a_first_232, a_first_232 = vp_updL b_first x2_62.toNatClampNeg ((b_first x2_62.toNatClampNeg) ||| (b_first (x2_62 + 1).toNatClampNeg)) → (wY_placesOf_123 post (wY_placesOf_7 post x1 n) x1 x2_62 (nI c) g_productions g_start g_sets g_states g_conflicts g_ready g_length g_tokens g_stuck g_scanned g_value g_place b_term b_size b_skipped b_left b_right b_width b_op b_constant b_rank b_grouping b_bTerm b_bSize b_bSkipped b_bLeft b_bWidth b_bOp b_bConstant b_follow b_ends a_first_232 b_last b_none b_set b_leads b_apart b_state b_to b_look b_begins b_nullable b_act b_built b_leadTo b_text b_fits b_token b_stack b_worth))))))))) (g_productions, g_start, g_sets, g_states, g_conflicts, g_ready, g_length, g_tokens, g_stuck, g_scanned, g_value, g_place, b_term, b_size, b_skipped, b_left, b_right, b_width, b_op, b_constant, b_rank, b_grouping, b_bTerm, b_bSize, b_bSkipped, b_bLeft, b_bWidth, b_bOp, b_bConstant, b_follow, b_ends, b_first, b_last, b_none, b_set, b_leads, b_apart, b_state, b_to, b_look, b_begins, b_nullable, b_act, b_built, b_leadTo, b_text, b_fits, b_token, b_stack, b_worth) (b_last x2_62.toNatClampNeg) (b_first (x2_62 + 1).toNatClampNeg))))) ∧
      (¬ nI t = 5 → (((nI t = 6 → (vp_in x2_62 8 ∧ (vp_in (x2_62 + 1) 8 ∧ (vp_in x2_62 8 ∧ ∀ a_first_130, a_first_130 = vp_updL b_first x2_62.toNatClampNeg ((b_first x2_62.toNatClampNeg) ||| (b_first (x2_62 + 1).toNatClampNeg)) → (vp_in x2_62 8 ∧ (vp_in (x2_62 + 1) 8 ∧ (vp_in x2_62 8 ∧ ∀ a_last_134, a_last_134 = vp_updL b_last x2_62.toNatClampNeg ((b_last x2_62.toNatClampNeg) ||| (b_last (x2_62 + 1).toNatClampNeg)) → (vp_in x2_62 8 ∧ ((((b_none x2_62.toNatClampNeg) = 0 → (vp_in (x2_62 + 1) 8 ∧ ((((b_none (x2_62 + 1).toNatClampNeg) = 0 → (vp_in x2_62 8 ∧ ∀ a_none_144, a_none_144 = upd b_none x2_62.toNatClampNeg (vp_nar .boolean 0) → (∀ x2_145, x2_145 = x2_62 + 1 → (∀ x3_146, x3_146 = nI c + 1 → (wY_placesOf_7 post x1 n x2_145 x3_146 g_productions g_start g_sets g_states g_conflicts g_ready g_length g_tokens g_stuck g_scanned g_value g_place b_term b_size b_skipped b_left b_right b_width b_op b_constant b_rank b_grouping b_bTerm b_bSize b_bSkipped b_bLeft b_bWidth b_bOp b_bConstant b_follow b_ends a_first_130 a_last_134 a_none_144 b_set b_leads b_apart b_state b_to b_look b_begins b_nullable b_act b_built b_leadTo b_text b_fits b_token b_stack b_worth))))) ∧ (¬ (b_none (x2_62 + 1).toNatClampNeg) = 0 → (vp_in x2_62 8 ∧ ∀ a_none_148, a_none_148 = upd b_none x2_62.toNatClampNeg (vp_nar .boolean 1) → (∀ x2_149, x2_149 = x2_62 + 1 → (∀ x3_150, x3_150 = nI c + 1 → (wY_placesOf_7 post x1 n x2_149 x3_150 g_productions g_start g_sets g_states g_conflicts g_ready g_length g_tokens g_stuck g_scanned g_value g_place b_term b_size b_skipped b_left b_right b_width b_op b_constant b_rank b_grouping b_bTerm b_bSize b_bSkipped b_bLeft b_bWidth b_bOp b_bConstant b_follow b_ends a_first_130 a_last_134 a_none_148 b_set b_leads b_apart b_state b_to b_look b_begins b_nullable b_act b_built b_leadTo b_text b_fits b_token b_stack b_worth))))))))) ∧ (¬ (b_none x2_62.toNatClampNeg) = 0 → (vp_in x2_62 8 ∧ ∀ a_none_138, a_none_138 = upd b_none x2_62.toNatClampNeg (vp_nar .boolean 1) → (∀ x2_139, x2_139 = x2_62 + 1 → (∀ x3_140, x3_140 = nI c + 1 → (wY_placesOf_7 post x1 n x2_139 x3_140 g_productions g_start g_sets g_states g_conflicts g_ready g_length g_tokens g_stuck g_scanned g_value g_place b_term b_size b_skipped b_left b_right b_width b_op b_constant b_rank b_grouping b_bTerm b_bSize b_bSkipped b_bLeft b_bWidth b_bOp b_bConstant b_follow b_ends a_first_130 a_last_134 a_none_138 b_set b_leads b_apart b_state b_to b_look b_begins b_nullable b_act b_built b_leadTo b_text b_fits b_token b_stack b_worth))))))))))))))) ∧
      (¬ nI t = 6 → (((9 ≤ nI t → (wY_placesOf_298 post (wY_placesOf_7 post x1 n) x1 x2_62 (nI c) (nI t) g_productions g_start g_sets g_states g_conflicts g_ready g_length g_tokens g_stuck g_scanned g_value g_place b_term b_size b_skipped b_left b_right b_width b_op b_constant b_rank b_grouping b_bTerm b_bSize b_bSkipped b_bLeft b_bWidth b_bOp b_bConstant b_follow b_ends b_first b_last b_none b_set b_leads b_apart b_state b_to b_look b_begins b_nullable b_act b_built b_leadTo b_text b_fits b_token b_stack b_worth)) ∧ (¬ 9 ≤ nI t → (vp_in x2_62 8 ∧ (vp_in x2_62 8 ∧ (wpY_chain (fun u => match u with | (g_productions, g_start, g_sets, g_states, g_conflicts, g_ready, g_length, g_tokens, g_stuck, g_scanned, g_value, g_place, b_term, b_size, b_skipped, b_left, b_right, b_width, b_op, b_constant, b_rank, b_grouping, b_bTerm, b_bSize, b_bSkipped, b_bLeft, b_bWidth, b_bOp, b_bConstant, b_follow, b_ends, b_first, b_last, b_none, b_set, b_leads, b_apart, b_state, b_to, b_look, b_begins, b_nullable, b_act, b_built, b_leadTo, b_text, b_fits, b_token, b_stack, b_worth) => (wY_placesOf_298 post (wY_placesOf_7 post x1 n) x1 x2_62 (nI c) (nI t) g_productions g_start g_sets g_states g_conflicts g_ready g_length g_tokens g_stuck g_scanned g_value g_place b_term b_size b_skipped b_left b_right b_width b_op b_constant b_rank b_grouping b_bTerm b_bSize b_bSkipped b_bLeft b_bWidth b_bOp b_bConstant b_follow b_ends b_first b_last b_none b_set b_leads b_apart b_state b_to b_look b_begins b_nullable b_act b_built b_leadTo b_text b_fits b_token b_stack b_worth)) (g_productions, g_start, g_sets, g_states, g_conflicts, g_ready, g_length, g_tokens, g_stuck, g_scanned, g_value, g_place, b_term, b_size, b_skipped, b_left, b_right, b_width, b_op, b_constant, b_rank, b_grouping, b_bTerm, b_bSize, b_bSkipped, b_bLeft, b_bWidth, b_bOp, b_bConstant, b_follow, b_ends, b_first, b_last, b_none, b_set, b_leads, b_apart, b_state, b_to, b_look, b_begins, b_nullable, b_act, b_built, b_leadTo, b_text, b_fits, b_token, b_stack, b_worth) (b_last x2_62.toNatClampNeg) (b_first x2_62.toNatClampNeg)))))))))))))) ∧
      (¬ 5 ≤ nI t → (vp_in x2_62 8 ∧ ∀ a_first_234, a_first_234 = vp_updL b_first x2_62.toNatClampNeg ((1 : Int64) <<< ((nI c).toInt64 &&& 63)) → (vp_in x2_62 8 ∧ ∀ a_last_236, a_last_236 = vp_updL b_last x2_62.toNatClampNeg ((1 : Int64) <<< ((nI c).toInt64 &&& 63)) → (vp_in x2_62 8 ∧ ∀ a_none_238, a_none_238 = upd b_none x2_62.toNatClampNeg (vp_nar .boolean 0) → (∀ x2_239, x2_239 = x2_62 + 1 → (∀ x3_240, x3_240 = nI c + 1 → (wY_placesOf_7 post x1 n x2_239 x3_240 g_productions g_start g_sets g_states g_conflicts g_ready g_length g_tokens g_stuck g_scanned g_value g_place b_term b_size b_skipped b_left b_right b_width b_op b_constant b_rank b_grouping b_bTerm b_bSize b_bSkipped b_bLeft b_bWidth b_bOp b_bConstant b_follow b_ends a_first_234 a_last_236 a_none_238 b_set b_leads b_apart b_state b_to b_look b_begins b_nullable b_act b_built b_leadTo b_text b_fits b_token b_stack b_worth))))))))) (g_productions, g_start, g_sets, g_states, g_conflicts, g_ready, g_length, g_tokens, g_stuck, g_scanned, g_value, g_place, b_term, b_size, b_skipped, b_left, b_right, b_width, b_op, b_constant, b_rank, b_grouping, b_bTerm, b_bSize, b_bSkipped, b_bLeft, b_bWidth, b_bOp, b_bConstant, b_follow, b_ends, b_first, b_last, b_none, b_set, b_leads, b_apart, b_state, b_to, b_look, b_begins, b_nullable, b_act, b_built, b_leadTo, b_text, b_fits, b_token, b_stack, b_worth) (nI t) := by
  obtain ⟨F, T, E, G⟩ := s
  obtain ⟨h1, h2, h3, h4⟩ := h
  dsimp only at h1 h2 h3 h4
  have hcc := tk_c t
  refine yta_ ht (nm_r (pk_sub htk) ?_)
  refine pk_le 5 t (fun c5 => pk_eq t 5 (fun e5 => ?_) (fun n5 => pk_eq t 6 (fun e6 => ?_) (fun n6 => ?_))) (fun c5 => ?_)
  · -- THEN
    have e2 := hcc.2.1 (Or.inl e5)
    obtain ⟨e, rfl⟩ : ∃ e, d = e + 2 := ⟨d - 2, by omega⟩
    rw [e2] at J ⊢
    rw [show e + 2 + 1 - 2 = e + 1 by omega] at J
    rw [show e + 2 - 2 = e by omega, nI_1 e, nI_clamp (show e < 2 ^ 31 by omega), nI_clamp (show e + 1 < 2 ^ 31 by omega)]
    have i0 : vp_in (nI e) 8 := vp_in_nI (by omega) (by omega)
    have i1 : vp_in (nI (e + 1)) 8 := vp_in_nI (by omega) (by omega)
    refine ⟨i0, i1, yk_ (fun fo hfo => ?_)⟩
    dsimp only
    have fin : ∀ (fi la : Nat → Int64), (∀ j, j < e → fi j = b_first j) → (∀ q, bl (fi e) q = (F e q || (E e && F (e + 1) q))) → (∀ j, j < e → la j = b_last j) → (∀ q, bl (la e) q = (T (e + 1) q || (E (e + 1) && T e q))) → ∀ no : Nat → Int32, (∀ j, j < e → no j = b_none j) → no e = b2 (E e && E (e + 1)) →
        wY_placesOf_7 post x1 n (nI (e + 1)) (nI (c + 1)) g_productions g_start g_sets g_states g_conflicts g_ready g_length g_tokens g_stuck g_scanned g_value g_place b_term b_size b_skipped b_left b_right b_width b_op b_constant b_rank b_grouping b_bTerm b_bSize b_bSkipped b_bLeft b_bWidth b_bOp b_bConstant fo b_ends fi la no b_set b_leads b_apart b_state b_to b_look b_begins b_nullable b_act b_built b_leadTo b_text b_fits b_token b_stack b_worth := by
      intro fi la f1 f2 l1 l2 no n1 n2
      refine J fi la no fo ⟨fun j hj q => ?_, fun j hj q => ?_, fun j hj => ?_, fun p hp q => ?_⟩
      · unfold gst ub
        rw [if_neg (by omega), if_pos e5, show e + 2 - 2 = e by omega, show e + 2 - 1 = e + 1 by omega]
        dsimp only
        by_cases z : j = e
        · subst z; rw [if_pos rfl]; exact f2 q
        · rw [if_neg z, f1 j (by omega)]; exact h1 j (by omega) q
      · unfold gst ub
        rw [if_neg (by omega), if_pos e5, show e + 2 - 2 = e by omega, show e + 2 - 1 = e + 1 by omega]
        dsimp only
        by_cases z : j = e
        · subst z; rw [if_pos rfl]; exact l2 q
        · rw [if_neg z, l1 j (by omega)]; exact h2 j (by omega) q
      · unfold gst ue
        rw [if_neg (by omega), if_pos e5, show e + 2 - 2 = e by omega, show e + 2 - 1 = e + 1 by omega]
        dsimp only
        by_cases z : j = e
        · subst z; rw [if_pos rfl]; exact n2
        · rw [if_neg z, n1 j (by omega)]; exact h3 j (by omega)
      · unfold gst
        rw [if_neg (by omega), if_pos e5, show e + 2 - 2 = e by omega, show e + 2 - 1 = e + 1 by omega]
        dsimp only
        rw [hfo p hp q, h4 p hp q, h2 e (by omega) p, h1 (e + 1) (by omega) q]
    have w123 : ∀ fi : Nat → Int64, (∀ j, j < e → fi j = b_first j) → (∀ q, bl (fi e) q = (F e q || (E e && F (e + 1) q))) → wY_placesOf_123 post (wY_placesOf_7 post x1 n) x1 (nI e) (nI c) g_productions g_start g_sets g_states g_conflicts g_ready g_length g_tokens g_stuck g_scanned g_value g_place b_term b_size b_skipped b_left b_right b_width b_op b_constant b_rank b_grouping b_bTerm b_bSize b_bSkipped b_bLeft b_bWidth b_bOp b_bConstant fo b_ends fi b_last b_none b_set b_leads b_apart b_state b_to b_look b_begins b_nullable b_act b_built b_leadTo b_text b_fits b_token b_stack b_worth := by
      intro fi f1 f2
      unfold wY_placesOf_123
      rw [nI_1 e, nI_clamp (show e < 2 ^ 31 by omega), nI_clamp (show e + 1 < 2 ^ 31 by omega)]
      have w165 : ∀ z : Int64, (∀ q, bl z q = (T (e + 1) q || (E (e + 1) && T e q))) → wY_placesOf_165 post (wY_placesOf_7 post x1 n) x1 (nI e) (nI c) z (nI e) g_productions g_start g_sets g_states g_conflicts g_ready g_length g_tokens g_stuck g_scanned g_value g_place b_term b_size b_skipped b_left b_right b_width b_op b_constant b_rank b_grouping b_bTerm b_bSize b_bSkipped b_bLeft b_bWidth b_bOp b_bConstant fo b_ends fi b_last b_none b_set b_leads b_apart b_state b_to b_look b_begins b_nullable b_act b_built b_leadTo b_text b_fits b_token b_stack b_worth := by
        intro z hz
        unfold wY_placesOf_165
        rw [nI_1 e, nI_clamp (show e < 2 ^ 31 by omega), nI_clamp (show e + 1 < 2 ^ 31 by omega)]
        have go : ∀ x : Bool, x = (E e && E (e + 1)) → wY_placesOf_7 post x1 n (nI (e + 1)) (nI (c + 1)) g_productions g_start g_sets g_states g_conflicts g_ready g_length g_tokens g_stuck g_scanned g_value g_place b_term b_size b_skipped b_left b_right b_width b_op b_constant b_rank b_grouping b_bTerm b_bSize b_bSkipped b_bLeft b_bWidth b_bOp b_bConstant fo b_ends fi (vp_updL b_last e z) (upd b_none e (b2 x)) b_set b_leads b_apart b_state b_to b_look b_begins b_nullable b_act b_built b_leadTo b_text b_fits b_token b_stack b_worth :=
          fun x hx => fin fi _ f1 f2 (fun j hj => ul_n (by omega)) (fun q => by rw [ul_s]; exact hz q) _ (fun j hj => pk_un (by omega)) (by rw [pk_us, hx])
        rw [h3 e (by omega), h3 (e + 1) (by omega)]
        refine ⟨i0, nm_e ⟨i0, br_c (fun c1 => ⟨i0, nm_e (nm_e (nm_r (nI_1 c) (go false ?_)))⟩) (fun c1 => ⟨i1, br_c (fun c2 => ⟨i0, nm_e (nm_e (nm_r (nI_1 c) (go false ?_)))⟩) (fun c2 => ⟨i0, nm_e (nm_e (nm_r (nI_1 c) (go true ?_)))⟩)⟩)⟩⟩
        · rw [b2_0] at c1; rw [c1]; rfl
        · rw [b2_0] at c2; rw [c2, Bool.and_false]
        · rw [b2_0] at c1 c2
          cases hE : E e <;> cases hE' : E (e + 1) <;> simp_all
      rw [h3 (e + 1) (by omega)]
      refine ⟨i1, br_c (fun c1 => ⟨i1, w165 _ (fun q => ?_)⟩) (fun c1 => ⟨i0, i1, w165 _ (fun q => ?_)⟩)⟩
      · rw [b2_0] at c1
        rw [h2 (e + 1) (by omega) q, c1]; simp
      · rw [b2_0] at c1
        rw [zb_or, h2 e (by omega) q, h2 (e + 1) (by omega) q]
        cases hE' : E (e + 1)
        · exact absurd hE' c1
        · simp [Bool.or_comm]
    rw [h3 e (by omega)]
    refine ⟨i0, br_c (fun c1 => w123 b_first (fun _ _ => rfl) (fun q => ?_)) (fun c1 => ⟨i0, i1, i0, nm_e (w123 _ (fun j hj => ul_n (by omega)) (fun q => ?_))⟩)⟩
    · rw [b2_0] at c1
      rw [h1 e (by omega) q, c1]; simp
    · rw [b2_0] at c1
      rw [ul_s, zb_or, h1 e (by omega) q, h1 (e + 1) (by omega) q]
      cases hE : E e
      · exact absurd hE c1
      · simp
  · -- OR
    have e2 := hcc.2.1 (Or.inr e6)
    obtain ⟨e, rfl⟩ : ∃ e, d = e + 2 := ⟨d - 2, by omega⟩
    rw [e2] at J ⊢
    rw [show e + 2 + 1 - 2 = e + 1 by omega] at J
    rw [show e + 2 - 2 = e by omega, nI_1 e, nI_clamp (show e < 2 ^ 31 by omega), nI_clamp (show e + 1 < 2 ^ 31 by omega)]
    have i0 : vp_in (nI e) 8 := vp_in_nI (by omega) (by omega)
    have i1 : vp_in (nI (e + 1)) 8 := vp_in_nI (by omega) (by omega)
    have go : ∀ x : Bool, x = (E e || E (e + 1)) → wY_placesOf_7 post x1 n (nI (e + 1)) (nI (c + 1)) g_productions g_start g_sets g_states g_conflicts g_ready g_length g_tokens g_stuck g_scanned g_value g_place b_term b_size b_skipped b_left b_right b_width b_op b_constant b_rank b_grouping b_bTerm b_bSize b_bSkipped b_bLeft b_bWidth b_bOp b_bConstant b_follow b_ends (vp_updL b_first e (b_first e ||| b_first (e + 1))) (vp_updL b_last e (b_last e ||| b_last (e + 1))) (upd b_none e (b2 x)) b_set b_leads b_apart b_state b_to b_look b_begins b_nullable b_act b_built b_leadTo b_text b_fits b_token b_stack b_worth := by
      intro x hx
      refine J _ _ _ _ ⟨fun j hj q => ?_, fun j hj q => ?_, fun j hj => ?_, fun p hp q => ?_⟩
      · unfold gst ub
        rw [if_neg (by omega), if_neg n5, if_pos e6, show e + 2 - 2 = e by omega, show e + 2 - 1 = e + 1 by omega]
        dsimp only
        by_cases z : j = e
        · subst z; rw [if_pos rfl, ul_s, zb_or, h1 j (by omega) q, h1 (j + 1) (by omega) q]
        · rw [if_neg z, ul_n z]; exact h1 j (by omega) q
      · unfold gst ub
        rw [if_neg (by omega), if_neg n5, if_pos e6, show e + 2 - 2 = e by omega, show e + 2 - 1 = e + 1 by omega]
        dsimp only
        by_cases z : j = e
        · subst z; rw [if_pos rfl, ul_s, zb_or, h2 j (by omega) q, h2 (j + 1) (by omega) q]
        · rw [if_neg z, ul_n z]; exact h2 j (by omega) q
      · unfold gst ue
        rw [if_neg (by omega), if_neg n5, if_pos e6, show e + 2 - 2 = e by omega, show e + 2 - 1 = e + 1 by omega]
        dsimp only
        by_cases z : j = e
        · subst z; rw [if_pos rfl, pk_us, hx]
        · rw [if_neg z, pk_un z]; exact h3 j (by omega)
      · unfold gst
        rw [if_neg (by omega), if_neg n5, if_pos e6]
        exact h4 p hp q
    rw [h3 e (by omega), h3 (e + 1) (by omega)]
    refine ⟨i0, i1, i0, nm_e ⟨i0, i1, i0, nm_e ⟨i0, br_c (fun c1 => ⟨i1, br_c (fun c2 => ⟨i0, nm_e (nm_e (nm_r (nI_1 c) (go false ?_)))⟩) (fun c2 => ⟨i0, nm_e (nm_e (nm_r (nI_1 c) (go true ?_)))⟩)⟩) (fun c1 => ⟨i0, nm_e (nm_e (nm_r (nI_1 c) (go true ?_)))⟩)⟩⟩⟩
    · rw [b2_0] at c1 c2; rw [c1, c2]; rfl
    · rw [b2_0] at c1 c2
      cases hE : E e <;> cases hE' : E (e + 1) <;> simp_all
    · rw [b2_0] at c1
      cases hE : E e <;> cases hE' : E (e + 1) <;> simp_all
  · -- the others
    have e1 := hcc.2.2 (by omega)
    obtain ⟨e, rfl⟩ : ∃ e, d = e + 1 := ⟨d - 1, by omega⟩
    rw [e1] at J ⊢
    rw [show e + 1 + 1 - 1 = e + 1 by omega] at J
    rw [show e + 1 - 1 = e by omega, nI_clamp (show e < 2 ^ 31 by omega)]
    have i0 : vp_in (nI e) 8 := vp_in_nI (by omega) (by omega)
    have w298 : ∀ fo : Nat → Int64, (∀ p, p < 32 → ∀ q, bl (fo p) q = (gst t c (e + 1) (F, T, E, G)).2.2.2 p q) → wY_placesOf_298 post (wY_placesOf_7 post x1 n) x1 (nI e) (nI c) (nI t) g_productions g_start g_sets g_states g_conflicts g_ready g_length g_tokens g_stuck g_scanned g_value g_place b_term b_size b_skipped b_left b_right b_width b_op b_constant b_rank b_grouping b_bTerm b_bSize b_bSkipped b_bLeft b_bWidth b_bOp b_bConstant fo b_ends b_first b_last b_none b_set b_leads b_apart b_state b_to b_look b_begins b_nullable b_act b_built b_leadTo b_text b_fits b_token b_stack b_worth := by
      intro fo hfo
      have go : ∀ no : Nat → Int32, (∀ j, j < e + 1 → no j = b2 ((gst t c (e + 1) (F, T, E, G)).2.2.1 j)) → wY_placesOf_7 post x1 n (nI (e + 1)) (nI (c + 1)) g_productions g_start g_sets g_states g_conflicts g_ready g_length g_tokens g_stuck g_scanned g_value g_place b_term b_size b_skipped b_left b_right b_width b_op b_constant b_rank b_grouping b_bTerm b_bSize b_bSkipped b_bLeft b_bWidth b_bOp b_bConstant fo b_ends b_first b_last no b_set b_leads b_apart b_state b_to b_look b_begins b_nullable b_act b_built b_leadTo b_text b_fits b_token b_stack b_worth := by
        intro no hno
        refine J _ _ no fo ⟨fun j hj q => ?_, fun j hj q => ?_, hno, hfo⟩
        · have : (gst t c (e + 1) (F, T, E, G)).1 = F := by
            unfold gst
            rw [if_neg (by omega), if_neg n5, if_neg n6]
            split
            · rfl
            · split <;> rfl
          rw [this]; exact h1 j hj q
        · have : (gst t c (e + 1) (F, T, E, G)).2.1 = T := by
            unfold gst
            rw [if_neg (by omega), if_neg n5, if_neg n6]
            split
            · rfl
            · split <;> rfl
          rw [this]; exact h2 j hj q
      refine pk_eq t 8 (fun e8 => nm_r (nI_1 e) (nm_r (nI_1 c) (go b_none (fun j hj => ?_)))) (fun n8 => ⟨i0, nm_e (nm_r (nI_1 e) (nm_r (nI_1 c) (go _ (fun j hj => ?_))))⟩)
      · have : (gst t c (e + 1) (F, T, E, G)).2.2.1 = E := by
          unfold gst
          rw [if_neg (by omega), if_neg n5, if_neg n6, if_neg (by omega), if_pos e8]
        rw [this]; exact h3 j hj
      · have : (gst t c (e + 1) (F, T, E, G)).2.2.1 = ue E e true := by
          unfold gst
          rw [if_neg (by omega), if_neg n5, if_neg n6]
          split
          · rfl
          · first | rfl | (rw [if_neg n8]; rfl)
        rw [this, nI_clamp (show e < 2 ^ 31 by omega)]
        unfold ue
        by_cases z : j = e
        · subst z; rw [if_pos rfl, pk_us]; rfl
        · rw [if_neg z, pk_un z]; exact h3 j hj
    refine pk_le 9 t (fun c9 => w298 b_follow (fun p hp q => ?_)) (fun c9 => ⟨i0, i0, yk_ (fun fo hfo => w298 fo (fun p hp q => ?_))⟩)
    · have : (gst t c (e + 1) (F, T, E, G)).2.2.2 = G := by
        unfold gst
        rw [if_neg (by omega), if_neg n5, if_neg n6, if_neg (by omega), if_neg (by omega)]
      rw [this]; exact h4 p hp q
    · have : (gst t c (e + 1) (F, T, E, G)).2.2.2 = fun p q => G p q || (T e p && F e q) := by
        unfold gst
        rw [if_neg (by omega), if_neg n5, if_neg n6]
        split
        · rfl
        · rw [if_pos (by omega)]; rfl
      rw [this]
      dsimp only
      rw [hfo p hp q, h4 p hp q, h2 e (by omega) p, h1 e (by omega) q]
  · -- a letter
    have e0 := hcc.1 c5
    rw [e0] at J ⊢
    rw [Nat.sub_zero] at J ⊢
    rw [nI_clamp (show d < 2 ^ 31 by omega)]
    have i0 : vp_in (nI d) 8 := vp_in_nI (by omega) (by omega)
    refine ⟨i0, nm_e ⟨i0, nm_e ⟨i0, nm_e (nm_r (nI_1 d) (nm_r (nI_1 c) (J _ _ _ _ ⟨fun j hj q => ?_, fun j hj q => ?_, fun j hj => ?_, fun p hp q => ?_⟩)))⟩⟩⟩
    · unfold gst ub
      rw [if_pos c5]
      dsimp only
      by_cases z : j = d
      · subst z; rw [if_pos rfl, ul_s, zb_one (by omega)]; exact (Bool.beq_eq_decide_eq q c).symm
      · rw [if_neg z, ul_n z]; exact h1 j (by omega) q
    · unfold gst ub
      rw [if_pos c5]
      dsimp only
      by_cases z : j = d
      · subst z; rw [if_pos rfl, ul_s, zb_one (by omega)]; exact (Bool.beq_eq_decide_eq q c).symm
      · rw [if_neg z, ul_n z]; exact h2 j (by omega) q
    · unfold gst ue
      rw [if_pos c5]
      dsimp only
      by_cases z : j = d
      · subst z; rw [if_pos rfl, pk_us]; rfl
      · rw [if_neg z, pk_un z]; exact h3 j (by omega)
    · unfold gst
      rw [if_pos c5]
      exact h4 p hp q
end
end
section
/-! listing sets: the pure picture -/
def fnd (G : Nat → Int64) (v : Int64) : Nat → Nat
  | 0 => 0
  | c + 1 => if fnd G v c < c then fnd G v c else if G c = v then c else c + 1
theorem fnd_s (G : Nat → Int64) (v : Int64) : ∀ c, fnd G v c ≤ c ∧ (∀ j, j < fnd G v c → G j ≠ v) ∧ (fnd G v c < c → G (fnd G v c) = v) := by
  intro c
  induction c with
  | zero => exact ⟨Nat.le_refl _, fun j h => absurd h (Nat.not_lt_zero _), fun h => absurd h (Nat.not_lt_zero _)⟩
  | succ c ih =>
    obtain ⟨h1, h2, h3⟩ := ih
    unfold fnd
    by_cases z : fnd G v c < c
    · rw [if_pos z]; exact ⟨by omega, h2, fun _ => h3 z⟩
    · have e : fnd G v c = c := by omega
      rw [if_neg z]
      rw [e] at h2
      by_cases y : G c = v
      · rw [if_pos y]; exact ⟨by omega, h2, fun _ => y⟩
      · rw [if_neg y]
        refine ⟨Nat.le_refl _, fun j hj => ?_, fun h => absurd h (by omega)⟩
        by_cases w : j = c
        · subst w; exact y
        · exact h2 j (by omega)
theorem fnd_u {G : Nat → Int64} {v : Int64} {c k : Nat} (h1 : k ≤ c) (h2 : ∀ j, j < k → G j ≠ v) (h3 : k < c → G k = v) : fnd G v c = k := by
  obtain ⟨g1, g2, g3⟩ := fnd_s G v c
  rcases Nat.lt_trichotomy (fnd G v c) k with z | z | z
  · exact absurd (g3 (by omega)) (h2 _ z)
  · exact z
  · exact absurd (h3 (by omega)) (g2 _ z)
/-- one cell of the listing: the set v is looked up, or put behind the others -/
def cel (cap ix : Nat) (v : Int64) (b : Nat × (Nat → Int64) × (Nat → Int32)) : Option (Nat × (Nat → Int64) × (Nat → Int32)) :=
  if v = 0 then some (b.1, b.2.1, upd b.2.2 ix (-1))
  else if fnd b.2.1 v b.1 = cap then none
  else if fnd b.2.1 v b.1 = b.1 then some (b.1 + 1, vp_updL b.2.1 b.1 v, upd b.2.2 ix (nI b.1))
  else some (b.1, b.2.1, upd b.2.2 ix (nI (fnd b.2.1 v b.1)))
def row (cap nc : Nat) (f : Nat → Int64) (s : Nat) (b : Nat × (Nat → Int64) × (Nat → Int32)) : Nat → Option (Nat × (Nat → Int64) × (Nat → Int32))
  | 0 => some b
  | l + 1 => (row cap nc f s b l).bind (fun b' => cel cap (nc * s + l) (f l) b')
def bf (cap nc : Nat) (tr : Nat → Int64 → Nat → Int64) (b0 : Nat × (Nat → Int64) × (Nat → Int32)) : Nat → Option (Nat × (Nat → Int64) × (Nat → Int32))
  | 0 => some b0
  | s + 1 => (bf cap nc tr b0 s).bind (fun b => if s < b.1 then row cap nc (tr s (b.2.1 s)) s b nc else some b)
theorem cel_c {cap ix : Nat} {v : Int64} {b b' : Nat × (Nat → Int64) × (Nat → Int32)} (hb : b.1 ≤ cap) (h : cel cap ix v b = some b') :
    b.1 ≤ b'.1 ∧ b'.1 ≤ cap ∧ (∀ k, k < b.1 → b'.2.1 k = b.2.1 k) ∧ (∀ j, j ≠ ix → b'.2.2 j = b.2.2 j) ∧ ((v = 0 ∧ b'.2.2 ix = -1) ∨ (v ≠ 0 ∧ ∃ k, k < b'.1 ∧ b'.2.1 k = v ∧ b'.2.2 ix = nI k)) ∧ (b'.1 = b.1 ∨ (b'.1 = b.1 + 1 ∧ v ≠ 0 ∧ b'.2.1 b.1 = v)) := by
  unfold cel at h
  by_cases c0 : v = 0
  · rw [if_pos c0] at h
    cases h
    exact ⟨Nat.le_refl _, hb, fun _ _ => rfl, fun j hj => pk_un hj, Or.inl ⟨c0, pk_us⟩, Or.inl rfl⟩
  rw [if_neg c0] at h
  obtain ⟨f1, f2, f3⟩ := fnd_s b.2.1 v b.1
  by_cases c1 : fnd b.2.1 v b.1 = cap
  · rw [if_pos c1] at h; exact absurd h (by simp)
  rw [if_neg c1] at h
  by_cases c2 : fnd b.2.1 v b.1 = b.1
  · rw [if_pos c2] at h
    cases h
    refine ⟨by dsimp only; omega, by dsimp only; omega, fun k hk => ul_n (by omega), fun j hj => pk_un hj, Or.inr ⟨c0, b.1, by dsimp only; omega, ul_s, pk_us⟩, Or.inr ⟨rfl, c0, ul_s⟩⟩
  · rw [if_neg c2] at h
    cases h
    exact ⟨Nat.le_refl _, hb, fun _ _ => rfl, fun j hj => pk_un hj, Or.inr ⟨c0, _, by dsimp only; omega, f3 (by omega), pk_us⟩, Or.inl rfl⟩
theorem row_n {cap nc : Nat} {f : Nat → Int64} {s : Nat} {b : Nat × (Nat → Int64) × (Nat → Int32)} {l : Nat} (h : row cap nc f s b l = none) : ∀ x, row cap nc f s b (l + x) = none
  | 0 => h
  | x + 1 => by
    show (row cap nc f s b (l + x)).bind _ = none
    rw [row_n h x]; rfl
theorem row_p {cap nc : Nat} {f : Nat → Int64} {s : Nat} {b : Nat × (Nat → Int64) × (Nat → Int32)} {l m : Nat} {b' : Nat × (Nat → Int64) × (Nat → Int32)} (h : row cap nc f s b m = some b') (hl : l ≤ m) : ∃ b'', row cap nc f s b l = some b'' := by
  cases e : row cap nc f s b l with
  | some b'' => exact ⟨b'', rfl⟩
  | none =>
    have := row_n e (m - l)
    rw [show l + (m - l) = m by omega, h] at this
    exact absurd this (by simp)
theorem bf_n {cap nc : Nat} {tr : Nat → Int64 → Nat → Int64} {b : Nat × (Nat → Int64) × (Nat → Int32)} {s : Nat} (h : bf cap nc tr b s = none) : ∀ x, bf cap nc tr b (s + x) = none
  | 0 => h
  | x + 1 => by
    show (bf cap nc tr b (s + x)).bind _ = none
    rw [bf_n h x]; rfl
theorem bf_e {cap nc : Nat} {tr : Nat → Int64 → Nat → Int64} {b0 b : Nat × (Nat → Int64) × (Nat → Int32)} {s : Nat} (h : bf cap nc tr b0 s = some b) (hs : b.1 ≤ s) : ∀ x, bf cap nc tr b0 (s + x) = some b
  | 0 => h
  | x + 1 => by
    show (bf cap nc tr b0 (s + x)).bind _ = _
    rw [bf_e h hs x]
    show (if s + x < b.1 then _ else some b) = _
    rw [if_neg (by omega)]
/-- what has been listed: cells that are done, and where the sets come from -/
def BI (cap nc : Nat) (tr : Nat → Int64 → Nat → Int64) (s l : Nat) (b : Nat × (Nat → Int64) × (Nat → Int32)) : Prop :=
  1 ≤ b.1 ∧ b.1 ≤ cap ∧ (∀ p m, p < b.1 → m < nc → (p < s ∨ (p = s ∧ m < l)) → (tr p (b.2.1 p) m = 0 ∧ b.2.2 (nc * p + m) = -1) ∨ (tr p (b.2.1 p) m ≠ 0 ∧ ∃ k, k < b.1 ∧ b.2.1 k = tr p (b.2.1 p) m ∧ b.2.2 (nc * p + m) = nI k)) ∧
  (∀ k, 1 ≤ k → k < b.1 → b.2.1 k ≠ 0 ∧ ∃ p m, p < k ∧ m < nc ∧ b.2.1 k = tr p (b.2.1 p) m)
theorem row_i {cap nc : Nat} {tr : Nat → Int64 → Nat → Int64} {s : Nat} {b : Nat × (Nat → Int64) × (Nat → Int32)} (hs : s < b.1) (h : BI cap nc tr s 0 b) :
    ∀ l b', l ≤ nc → row cap nc (tr s (b.2.1 s)) s b l = some b' → BI cap nc tr s l b' ∧ b.1 ≤ b'.1 ∧ (∀ k, k < b.1 → b'.2.1 k = b.2.1 k) := by
  intro l
  induction l with
  | zero => intro b' _ e; cases e; exact ⟨h, Nat.le_refl _, fun _ _ => rfl⟩
  | succ l ih =>
    intro b' hl e
    obtain ⟨b1, e1⟩ := row_p e (l := l) (by omega)
    have e2 : (row cap nc (tr s (b.2.1 s)) s b l).bind (fun b' => cel cap (nc * s + l) (tr s (b.2.1 s) l) b') = some b' := e
    rw [e1] at e2
    obtain ⟨⟨i1, i2, i3, i4⟩, i5, i6⟩ := ih b1 (by omega) e1
    obtain ⟨c1, c2, c3, c4, c5, c6⟩ := cel_c i2 e2
    have es : b'.2.1 s = b.2.1 s := by rw [c3 s (by omega), i6 s hs]
    refine ⟨⟨by omega, c2, fun p m hp hm hd => ?_, fun k hk1 hk => ?_⟩, by omega, fun k hk => by rw [c3 k (by omega), i6 k hk]⟩
    · by_cases z : p = s ∧ m = l
      · obtain ⟨rfl, rfl⟩ := z
        rw [es]; exact c5
      · have hpb : p < b1.1 := by omega
        have hne : nc * p + m ≠ nc * s + l := by
          intro q
          rcases Nat.lt_trichotomy p s with y | y | y
          · have := Nat.mul_le_mul_left nc (show p + 1 ≤ s by omega)
            rw [Nat.mul_add] at this; omega
          · subst y; omega
          · omega
        rw [c3 p hpb, c4 _ hne]
        rcases i3 p m hpb hm (by omega) with y | ⟨y1, k, y2, y3, y4⟩
        · exact Or.inl y
        · exact Or.inr ⟨y1, k, by omega, by rw [c3 k y2]; exact y3, y4⟩
    · by_cases z : k < b1.1
      · obtain ⟨j1, p, m, j2, j3, j4⟩ := i4 k hk1 z
        rw [c3 k z]
        exact ⟨j1, p, m, j2, j3, by rw [c3 p (by omega)]; exact j4⟩
      · rcases c6 with c6 | ⟨c6, c7, c8⟩
        · omega
        · have : k = b1.1 := by omega
          subst this
          rw [c8]
          exact ⟨c7, s, l, by omega, by omega, by rw [es]⟩
theorem bf_i {cap nc : Nat} {tr : Nat → Int64 → Nat → Int64} {b0 : Nat × (Nat → Int64) × (Nat → Int32)} (h0 : b0.1 = 1) (hcap : 1 ≤ cap) : ∀ s b, bf cap nc tr b0 s = some b → BI cap nc tr s 0 b ∧ b.2.1 0 = b0.2.1 0 := by
  intro s
  induction s with
  | zero =>
    intro b e
    cases e
    exact ⟨⟨by omega, by omega, fun p m _ _ h => by omega, fun k h1 h2 => by omega⟩, rfl⟩
  | succ s ih =>
    intro b e
    have e2 : (bf cap nc tr b0 s).bind (fun b => if s < b.1 then row cap nc (tr s (b.2.1 s)) s b nc else some b) = some b := e
    cases e1 : bf cap nc tr b0 s with
    | none => rw [e1] at e2; exact absurd e2 (by simp)
    | some b1 =>
      rw [e1] at e2
      have e3 : (if s < b1.1 then row cap nc (tr s (b1.2.1 s)) s b1 nc else some b1) = some b := e2
      obtain ⟨i1, i2⟩ := ih b1 e1
      by_cases z : s < b1.1
      · rw [if_pos z] at e3
        obtain ⟨⟨j1, j2, j3, j4⟩, j5, j6⟩ := row_i z i1 nc b (Nat.le_refl _) e3
        refine ⟨⟨j1, j2, fun p m hp hm hd => j3 p m hp hm ?_, j4⟩, by rw [j6 0 (by have := i1.1; omega)]; exact i2⟩
        rcases hd with hd | hd
        · by_cases y : p = s
          · exact Or.inr ⟨y, hm⟩
          · exact Or.inl (by omega)
        · omega
      · rw [if_neg z] at e3
        cases e3
        obtain ⟨j1, j2, j3, j4⟩ := i1
        exact ⟨⟨j1, j2, fun p m hp hm hd => j3 p m hp hm (Or.inl (by omega)), j4⟩, i2⟩
end
section
/-! the reference's sets -/
section
variable {g_productions : Int32} {g_start : Int64} {g_sets g_states g_conflicts g_ready g_length g_tokens g_stuck g_scanned g_value g_place : Int32} {b_term b_size b_skipped b_left b_right b_width b_op b_constant b_rank b_grouping b_bTerm b_bSize b_bSkipped b_bLeft b_bWidth b_bOp b_bConstant : Nat → Int32} {b_follow b_ends b_first b_last : Nat → Int64} {b_none : Nat → Int32} {b_set : Nat → Int64} {b_leads b_apart : Nat → Int32} {b_state : Nat → Int64} {b_to b_look b_begins b_nullable b_act b_built b_leadTo b_text b_fits b_token b_stack b_worth : Nat → Int32} {post : SY → Prop}
theorem yp_7 {r z : Nat} {G0 : Nat → Nat → Bool} (hr : r < 4) (hru : ru_ok b_term b_size) (ez : b_size r = nI z) (hz : z ≤ 8) (hw : wf_ (nv b_term) (8 * r) z)
    (H : ∀ (fi la : Nat → Int64) (no : Nat → Int32) (fo : Nat → Int64), RYs (gl (nv b_term) (8 * r) G0 z) (dp (nv b_term) (8 * r) z) fi la no fo →
      post (g_productions, if 0 < z then g_start ||| fi 0 else g_start, g_sets, g_states, g_conflicts, g_ready, g_length, g_tokens, g_stuck, g_scanned, g_value, g_place, b_term, b_size, b_skipped, b_left, b_right, b_width, b_op, b_constant, b_rank, b_grouping, b_bTerm, b_bSize, b_bSkipped, b_bLeft, b_bWidth, b_bOp, b_bConstant, fo, vp_updL b_ends r (if 0 < z then la 0 else 0), fi, la, no, b_set, b_leads, b_apart, b_state, b_to, b_look, b_begins, b_nullable, b_act, b_built, b_leadTo, b_text, b_fits, b_token, b_stack, b_worth)) :
    ∀ d k (fi la : Nat → Int64) (no : Nat → Int32) (fo : Nat → Int64), k + d = z → RYs (gl (nv b_term) (8 * r) G0 k) (dp (nv b_term) (8 * r) k) fi la no fo →
      wY_placesOf_7 post (nI r) (d + 1) (nI (dp (nv b_term) (8 * r) k)) (nI (8 * r + k)) g_productions g_start g_sets g_states g_conflicts g_ready g_length g_tokens g_stuck g_scanned g_value g_place b_term b_size b_skipped b_left b_right b_width b_op b_constant b_rank b_grouping b_bTerm b_bSize b_bSkipped b_bLeft b_bWidth b_bOp b_bConstant fo b_ends fi la no b_set b_leads b_apart b_state b_to b_look b_begins b_nullable b_act b_built b_leadTo b_text b_fits b_token b_stack b_worth := by
  have c1 : (nI r).toNatClampNeg = r := nI_clamp (by omega)
  have e8 : 8 * nI r + nI z = nI (8 * r + z) := by rw [show (8 : Int32) = nI 8 from rfl, pk_mul, nI_add]
  have ir : vp_in (nI r) 4 := vp_in_nI hr (by omega)
  intro d
  induction d with
  | zero =>
    intro k fi la no fo hk h
    have : k = z := by omega
    subst this
    have h' := H fi la no fo h
    refine ⟨ir, ?_⟩
    rw [c1, ez, e8]
    refine pk_le (8 * r + k) (8 * r + k) (fun _ => ?_) (fun z => absurd z (by omega))
    rcases hw.2 with z0 | z1
    · subst z0
      rw [if_neg (by omega), if_neg (by omega)] at h'
      have d0 : dp (nv b_term) (8 * r) 0 = 0 := rfl
      rw [d0]
      refine br_t (by decide) ⟨ir, ?_⟩
      rw [c1]
      exact nm_e (br_t (by decide) h')
    · have k0 : 0 < k := by
        rcases Nat.eq_zero_or_pos k with y | y
        · subst y; exact absurd z1 (by show ¬ (0 = 1); decide)
        · exact y
      rw [if_pos k0, if_pos k0] at h'
      rw [z1]
      refine br_f (by decide) ⟨ir, ?_⟩
      rw [c1]
      exact nm_e (br_f (by decide) (nm_e h'))
  | succ d ih =>
    intro k fi la no fo hk h
    obtain ⟨t, ht, et⟩ := hru.1 (8 * r + k)
    have etn : nv b_term (8 * r + k) = t := by unfold nv; rw [et]; exact nI_clamp (by omega)
    have htk := hw.1 k (by omega)
    rw [etn] at htk
    have hdp : dp (nv b_term) (8 * r) (k + 1) = dp (nv b_term) (8 * r) k + 1 - tk t := by
      show _ + 1 - tk (nv b_term (8 * r + k)) = _
      rw [etn]
    have hgl : gl (nv b_term) (8 * r) G0 (k + 1) = gst t (8 * r + k) (dp (nv b_term) (8 * r) k) (gl (nv b_term) (8 * r) G0 k) := by
      show gst (nv b_term (8 * r + k)) _ _ _ = _
      rw [etn]
    have hd4 := dp_4 hw hz (k := k) (by omega)
    refine ⟨ir, ?_⟩
    rw [c1, ez, e8]
    refine pk_le (8 * r + z) (8 * r + k) (fun z => absurd z (by omega)) (fun _ => ⟨vp_in_nI (by omega) (by omega), ?_⟩)
    rw [nI_clamp (show 8 * r + k < 2 ^ 31 by omega), et]
    refine nm_e ?_
    refine yg_ (b_first := fi) (b_last := la) (b_none := no) (b_follow := fo) (c := 8 * r + k) ht (by omega) hd4 htk h (fun fi' la' no' fo' h' => ?_)
    rw [← hgl, ← hdp] at h'
    rw [← hdp, Nat.add_assoc]
    exact ih (k + 1) fi' la' no' fo' (by omega) h'
theorem yp_p {r z : Nat} {G0 : Nat → Nat → Bool} (hr : r < 4) (hru : ru_ok b_term b_size) (ez : b_size r = nI z) (hz : z ≤ 8) (hw : wf_ (nv b_term) (8 * r) z) (h0 : ∀ p, p < 32 → ∀ q, bl (b_follow p) q = G0 p q)
    (H : ∀ (fi la : Nat → Int64) (no : Nat → Int32) (fo : Nat → Int64), RYs (gl (nv b_term) (8 * r) G0 z) (dp (nv b_term) (8 * r) z) fi la no fo →
      post (g_productions, if 0 < z then g_start ||| fi 0 else g_start, g_sets, g_states, g_conflicts, g_ready, g_length, g_tokens, g_stuck, g_scanned, g_value, g_place, b_term, b_size, b_skipped, b_left, b_right, b_width, b_op, b_constant, b_rank, b_grouping, b_bTerm, b_bSize, b_bSkipped, b_bLeft, b_bWidth, b_bOp, b_bConstant, fo, vp_updL b_ends r (if 0 < z then la 0 else 0), fi, la, no, b_set, b_leads, b_apart, b_state, b_to, b_look, b_begins, b_nullable, b_act, b_built, b_leadTo, b_text, b_fits, b_token, b_stack, b_worth)) : wpY_placesOf post (g_productions, g_start, g_sets, g_states, g_conflicts, g_ready, g_length, g_tokens, g_stuck, g_scanned, g_value, g_place, b_term, b_size, b_skipped, b_left, b_right, b_width, b_op, b_constant, b_rank, b_grouping, b_bTerm, b_bSize, b_bSkipped, b_bLeft, b_bWidth, b_bOp, b_bConstant, b_follow, b_ends, b_first, b_last, b_none, b_set, b_leads, b_apart, b_state, b_to, b_look, b_begins, b_nullable, b_act, b_built, b_leadTo, b_text, b_fits, b_token, b_stack, b_worth) (nI r) :=
  nm_r (e' := nI (8 * r + 0)) (by rw [show (8 : Int32) = nI 8 from rfl, pk_mul]; rfl) ⟨z + 1, yp_7 hr hru ez hz hw H z 0 b_first b_last b_none b_follow (by omega) ⟨fun e h => absurd h (Nat.not_lt_zero _), fun e h => absurd h (Nat.not_lt_zero _), fun e h => absurd h (Nat.not_lt_zero _), h0⟩⟩
end
section
variable {g_productions : Int32} {g_start : Int64} {g_sets g_states g_conflicts g_ready g_length g_tokens g_stuck g_scanned g_value g_place : Int32} {b_term b_size b_skipped b_left b_right b_width b_op b_constant b_rank b_grouping b_bTerm b_bSize b_bSkipped b_bLeft b_bWidth b_bOp b_bConstant : Nat → Int32} {b_follow b_ends b_first b_last : Nat → Int64} {b_none : Nat → Int32} {b_set : Nat → Int64} {b_leads b_apart : Nat → Int32} {b_state : Nat → Int64} {b_to b_look b_begins b_nullable b_act b_built b_leadTo b_text b_fits b_token b_stack b_worth : Nat → Int32} {post : Int32 → SY → Prop}
/-- what the places of all rules are -/
def yLaid (tm sz : Nat → Nat) (R : Nat) (start : Int64) (ends fo : Nat → Int64) : Prop :=
  (∀ q, bl start q = sta tm sz R q) ∧ (∀ r, r < R → ∀ q, bl (ends r) q = TR tm sz r q) ∧ (∀ p, p < 32 → ∀ q, bl (fo p) q = gG tm sz R p q)
theorem yl_28 (hru : ru_ok b_term b_size) (hw : rwf (nv b_term) (nv b_size))
    (H : ∀ (start : Int64) (ends fi la : Nat → Int64) (no : Nat → Int32) (fo : Nat → Int64), yLaid (nv b_term) (nv b_size) 4 start ends fo →
      ∃ n58 : Nat, wY_listSets_58 post g_productions start g_states g_conflicts g_ready g_length g_tokens g_stuck g_scanned g_value g_place n58 0 1 b_term b_size b_skipped b_left b_right b_width b_op b_constant b_rank b_grouping b_bTerm b_bSize b_bSkipped b_bLeft b_bWidth b_bOp b_bConstant fo ends fi la no (vp_updL b_set 0 0) b_leads b_apart b_state b_to b_look b_begins b_nullable b_act b_built b_leadTo b_text b_fits b_token b_stack b_worth) :
    ∀ d r (start : Int64) (ends fi la : Nat → Int64) (no : Nat → Int32) (fo : Nat → Int64), r + d = 4 → yLaid (nv b_term) (nv b_size) r start ends fo →
      wY_listSets_28 post (d + 1) (nI r) g_productions start g_sets g_states g_conflicts g_ready g_length g_tokens g_stuck g_scanned g_value g_place b_term b_size b_skipped b_left b_right b_width b_op b_constant b_rank b_grouping b_bTerm b_bSize b_bSkipped b_bLeft b_bWidth b_bOp b_bConstant fo ends fi la no b_set b_leads b_apart b_state b_to b_look b_begins b_nullable b_act b_built b_leadTo b_text b_fits b_token b_stack b_worth := by
  intro d
  induction d with
  | zero =>
    intro r start ends fi la no fo hr h
    have : r = 4 := by omega
    subst this
    exact pk_le 4 4 (fun _ => nm_e (H start ends fi la no fo h)) (fun z => absurd z (by omega))
  | succ d ih =>
    intro r start ends fi la no fo hr h
    obtain ⟨z, hz, ez⟩ := hru.2 r
    have ezn : nv b_size r = z := by unfold nv; rw [ez]; exact nI_clamp (by omega)
    have hwr := hw.2.2 r (by omega)
    rw [ezn] at hwr
    refine pk_le 4 r (fun z => absurd z (by omega)) (fun _ => ?_)
    refine yp_p (g_start := start) (b_ends := ends) (b_first := fi) (b_last := la) (b_none := no) (b_follow := fo) (by omega) hru ez hz hwr h.2.2 (fun fi' la' no' fo' h' => ?_)
    dsimp only
    refine nm_r (nI_1 r) (ih (r + 1) _ _ fi' la' no' fo' (by omega) ⟨fun q => ?_, fun p hp q => ?_, fun p hp q => ?_⟩)
    · show _ = (sta (nv b_term) (nv b_size) r q || FR (nv b_term) (nv b_size) r q)
      unfold FR
      rw [ezn]
      by_cases z0 : 0 < z
      · have d1 : dp (nv b_term) (8 * r) z = 1 := hwr.2.resolve_left (by omega)
        rw [if_pos z0, zb_or, h.1 q, h'.1 0 (by omega) q]; simp [z0]
      · rw [if_neg z0, h.1 q]; simp [z0]
    · by_cases e : p = r
      · subst e
        rw [ul_s]
        unfold TR
        rw [ezn]
        by_cases z0 : 0 < z
        · have d1 : dp (nv b_term) (8 * p) z = 1 := hwr.2.resolve_left (by omega)
          rw [if_pos z0, h'.2.1 0 (by omega) q]; simp [z0]
        · rw [if_neg z0, zb_0]; simp [z0]
      · rw [ul_n e]; exact h.2.1 p (by omega) q
    · show _ = (gl (nv b_term) (8 * r) (gG (nv b_term) (nv b_size) r) (nv b_size r)).2.2.2 p q
      rw [ezn]; exact h'.2.2.2 p hp q
theorem yl_7 (hru : ru_ok b_term b_size) (hw : rwf (nv b_term) (nv b_size))
    (H : ∀ (start : Int64) (ends fi la : Nat → Int64) (no : Nat → Int32) (fo : Nat → Int64), yLaid (nv b_term) (nv b_size) 4 start ends fo →
      ∃ n58 : Nat, wY_listSets_58 post g_productions start g_states g_conflicts g_ready g_length g_tokens g_stuck g_scanned g_value g_place n58 0 1 b_term b_size b_skipped b_left b_right b_width b_op b_constant b_rank b_grouping b_bTerm b_bSize b_bSkipped b_bLeft b_bWidth b_bOp b_bConstant fo ends fi la no (vp_updL b_set 0 0) b_leads b_apart b_state b_to b_look b_begins b_nullable b_act b_built b_leadTo b_text b_fits b_token b_stack b_worth) :
    ∀ d p (fo : Nat → Int64), p + d = 32 → (∀ k, k < p → fo k = 0) → wY_listSets_7 post g_productions 0 g_sets g_states g_conflicts g_ready g_length g_tokens g_stuck g_scanned g_value g_place (d + 1) (nI p) b_term b_size b_skipped b_left b_right b_width b_op b_constant b_rank b_grouping b_bTerm b_bSize b_bSkipped b_bLeft b_bWidth b_bOp b_bConstant fo b_ends b_first b_last b_none b_set b_leads b_apart b_state b_to b_look b_begins b_nullable b_act b_built b_leadTo b_text b_fits b_token b_stack b_worth := by
  intro d
  induction d with
  | zero =>
    intro p fo hp h
    have : p = 32 := by omega
    subst this
    exact pk_le 32 32 (fun _ => ⟨5, yl_28 hru hw H 4 0 0 b_ends b_first b_last b_none fo (by omega) ⟨fun q => zb_0 q, fun r hr => absurd hr (Nat.not_lt_zero _), fun k hk q => by rw [h k hk, zb_0]; rfl⟩⟩) (fun z => absurd z (by omega))
  | succ d ih =>
    intro p fo hp h
    refine pk_le 32 p (fun z => absurd z (by omega)) (fun _ => ⟨vp_in_nI (by omega) (by omega), ?_⟩)
    rw [nI_clamp (show p < 2 ^ 31 by omega)]
    refine nm_e (nm_r (nI_1 p) (ih (p + 1) _ (by omega) (fun k hk => ?_)))
    by_cases e : k = p
    · subst e; exact ul_s
    · rw [ul_n e]; exact h k (by omega)
end
/-! the steps from set to set -/
def afF (fo : Nat → Int64) (x : Int64) : Nat → Int64
  | 0 => 0
  | p + 1 => if bl x p then afF fo x p ||| fo p else afF fo x p
def rdF (tm : Nat → Nat) (x : Int64) (l : Nat) : Nat → Int64
  | 0 => 0
  | p + 1 => if bl x p = true ∧ (tm p = 4 ∨ tm p = l) then rdF tm x l p ||| ((1 : Int64) <<< ((nI p).toInt64 &&& 63)) else rdF tm x l p
def trY (fo : Nat → Int64) (tm : Nat → Nat) (start : Int64) (s : Nat) (x : Int64) (l : Nat) : Int64 := rdF tm (if s = 0 then start else afF fo x 32) l 32
theorem af_b {fo : Nat → Int64} {x : Int64} {q : Nat} : ∀ n, bl (afF fo x n) q = true ↔ ∃ p, p < n ∧ bl x p = true ∧ bl (fo p) q = true
  | 0 => ⟨fun h => by unfold afF at h; rw [zb_0] at h; exact absurd h (by decide), fun ⟨p, h, _⟩ => absurd h (Nat.not_lt_zero _)⟩
  | n + 1 => by
    unfold afF
    by_cases c : bl x n = true
    · rw [if_pos c, zb_or, Bool.or_eq_true, af_b n]
      constructor
      · rintro (⟨p, a, b⟩ | a)
        · exact ⟨p, by omega, b⟩
        · exact ⟨n, by omega, c, a⟩
      · rintro ⟨p, a, b, d⟩
        by_cases e : p = n
        · subst e; exact Or.inr d
        · exact Or.inl ⟨p, by omega, b, d⟩
    · rw [if_neg c, af_b n]
      constructor
      · rintro ⟨p, a, b⟩; exact ⟨p, by omega, b⟩
      · rintro ⟨p, a, b, d⟩
        by_cases e : p = n
        · subst e; exact absurd b c
        · exact ⟨p, by omega, b, d⟩
theorem rd_b {tm : Nat → Nat} {x : Int64} {l q : Nat} : ∀ n, n ≤ 64 → (bl (rdF tm x l n) q = true ↔ q < n ∧ bl x q = true ∧ (tm q = 4 ∨ tm q = l))
  | 0, _ => ⟨fun h => by unfold rdF at h; rw [zb_0] at h; exact absurd h (by decide), fun ⟨h, _⟩ => absurd h (Nat.not_lt_zero _)⟩
  | n + 1, hn => by
    unfold rdF
    by_cases c : bl x n = true ∧ (tm n = 4 ∨ tm n = l)
    · rw [if_pos c, zb_or, Bool.or_eq_true, rd_b n (by omega), zb_one (by omega), decide_eq_true_eq]
      constructor
      · rintro (⟨a, b⟩ | a)
        · exact ⟨by omega, b⟩
        · subst a; exact ⟨by omega, c⟩
      · rintro ⟨a, b⟩
        by_cases e : q = n
        · exact Or.inr e
        · exact Or.inl ⟨by omega, b⟩
    · rw [if_neg c, rd_b n (by omega)]
      constructor
      · rintro ⟨a, b⟩; exact ⟨by omega, b⟩
      · rintro ⟨a, b⟩
        by_cases e : q = n
        · subst e; exact absurd b c
        · exact ⟨by omega, b⟩
section
variable {g_productions : Int32} {g_start : Int64} {g_sets g_states g_conflicts g_ready g_length g_tokens g_stuck g_scanned g_value g_place : Int32} {b_term b_size b_skipped b_left b_right b_width b_op b_constant b_rank b_grouping b_bTerm b_bSize b_bSkipped b_bLeft b_bWidth b_bOp b_bConstant : Nat → Int32} {b_follow b_ends b_first b_last : Nat → Int64} {b_none : Nat → Int32} {b_set : Nat → Int64} {b_leads b_apart : Nat → Int32} {b_state : Nat → Int64} {b_to b_look b_begins b_nullable b_act b_built b_leadTo b_text b_fits b_token b_stack b_worth : Nat → Int32} {post : Int64 → Prop}
theorem yf_5 {x : Int64} (H : post (afF b_follow x 32)) : ∀ d p, p + d = 32 → wY_after_5 post x g_productions g_start g_sets g_states g_conflicts g_ready g_length g_tokens g_stuck g_scanned g_value g_place b_term b_size b_skipped b_left b_right b_width b_op b_constant b_rank b_grouping b_bTerm b_bSize b_bSkipped b_bLeft b_bWidth b_bOp b_bConstant b_follow b_ends b_first b_last b_none b_set b_leads b_apart b_state b_to b_look b_begins b_nullable b_act b_built b_leadTo b_text b_fits b_token b_stack b_worth (d + 1) (afF b_follow x p) (nI p) := by
  intro d
  induction d with
  | zero =>
    intro p hp
    have : p = 32 := by omega
    subst this
    exact pk_le 32 32 (fun _ => H) (fun z => absurd z (by omega))
  | succ d ih =>
    intro p hp
    have ih' := ih (p + 1) (by omega)
    unfold afF at ih'
    refine pk_le 32 p (fun z => absurd z (by omega)) (fun _ => zb_b1 p (fun hb => ⟨vp_in_nI (by omega) (by omega), ?_⟩) (fun hb => nm_r (nI_1 p) ?_))
    · rw [nI_clamp (show p < 2 ^ 31 by omega)]
      rw [if_pos hb] at ih'
      exact nm_e (nm_r (nI_1 p) ih')
    · rw [if_neg (by rw [hb]; decide)] at ih'
      exact ih'
theorem yf_ {x : Int64} (H : post (afF b_follow x 32)) : wpY_after post (g_productions, g_start, g_sets, g_states, g_conflicts, g_ready, g_length, g_tokens, g_stuck, g_scanned, g_value, g_place, b_term, b_size, b_skipped, b_left, b_right, b_width, b_op, b_constant, b_rank, b_grouping, b_bTerm, b_bSize, b_bSkipped, b_bLeft, b_bWidth, b_bOp, b_bConstant, b_follow, b_ends, b_first, b_last, b_none, b_set, b_leads, b_apart, b_state, b_to, b_look, b_begins, b_nullable, b_act, b_built, b_leadTo, b_text, b_fits, b_token, b_stack, b_worth) x := ⟨33, yf_5 H 32 0 (by omega)⟩
theorem yd_6 {x : Int64} {l : Nat} (hl : l < 4) (hru : ru_ok b_term b_size) (H : post (rdF (nv b_term) x l 32)) : ∀ d p, p + d = 32 → wY_read_6 post x (nI l) g_productions g_start g_sets g_states g_conflicts g_ready g_length g_tokens g_stuck g_scanned g_value g_place b_term b_size b_skipped b_left b_right b_width b_op b_constant b_rank b_grouping b_bTerm b_bSize b_bSkipped b_bLeft b_bWidth b_bOp b_bConstant b_follow b_ends b_first b_last b_none b_set b_leads b_apart b_state b_to b_look b_begins b_nullable b_act b_built b_leadTo b_text b_fits b_token b_stack b_worth (d + 1) (rdF (nv b_term) x l p) (nI p) := by
  intro d
  induction d with
  | zero =>
    intro p hp
    have : p = 32 := by omega
    subst this
    exact pk_le 32 32 (fun _ => H) (fun z => absurd z (by omega))
  | succ d ih =>
    intro p hp
    have ih' := ih (p + 1) (by omega)
    unfold rdF at ih'
    obtain ⟨t, ht, et⟩ := hru.1 p
    have etn : nv b_term p = t := by unfold nv; rw [et]; exact nI_clamp (by omega)
    rw [etn] at ih'
    have ip : vp_in (nI p) 32 := vp_in_nI (by omega) (by omega)
    refine pk_le 32 p (fun z => absurd z (by omega)) (fun _ => zb_b1 p (fun hb => ⟨ip, ?_⟩) (fun hb => nm_r (nI_1 p) ?_))
    · rw [nI_clamp (show p < 2 ^ 31 by omega), et]
      refine pk_eq t 4 (fun e => ?_) (fun n4 => ⟨ip, pk_eq t l (fun e => ?_) (fun nl => nm_r (nI_1 p) ?_)⟩)
      · rw [if_pos ⟨hb, Or.inl e⟩] at ih'
        exact nm_e (nm_r (nI_1 p) ih')
      · rw [if_pos ⟨hb, Or.inr e⟩] at ih'
        exact nm_e (nm_r (nI_1 p) ih')
      · rw [if_neg (fun z => z.2.elim n4 nl)] at ih'
        exact ih'
    · rw [if_neg (fun z => by rw [hb] at z; exact absurd z.1 (by decide))] at ih'
      exact ih'
theorem yd_ {x : Int64} {l : Nat} (hl : l < 4) (hru : ru_ok b_term b_size) (H : post (rdF (nv b_term) x l 32)) : wpY_read post (g_productions, g_start, g_sets, g_states, g_conflicts, g_ready, g_length, g_tokens, g_stuck, g_scanned, g_value, g_place, b_term, b_size, b_skipped, b_left, b_right, b_width, b_op, b_constant, b_rank, b_grouping, b_bTerm, b_bSize, b_bSkipped, b_bLeft, b_bWidth, b_bOp, b_bConstant, b_follow, b_ends, b_first, b_last, b_none, b_set, b_leads, b_apart, b_state, b_to, b_look, b_begins, b_nullable, b_act, b_built, b_leadTo, b_text, b_fits, b_token, b_stack, b_worth) x (nI l) := ⟨33, yd_6 hl hru H 32 0 (by omega)⟩
end
section
variable {g_productions : Int32} {g_start : Int64} {g_sets g_states g_conflicts g_ready g_length g_tokens g_stuck g_scanned g_value g_place : Int32} {b_term b_size b_skipped b_left b_right b_width b_op b_constant b_rank b_grouping b_bTerm b_bSize b_bSkipped b_bLeft b_bWidth b_bOp b_bConstant : Nat → Int32} {b_follow b_ends b_first b_last : Nat → Int64} {b_none : Nat → Int32} {b_set : Nat → Int64} {b_leads b_apart : Nat → Int32} {b_state : Nat → Int64} {b_to b_look b_begins b_nullable b_act b_built b_leadTo b_text b_fits b_token b_stack b_worth : Nat → Int32} {post : Int32 → SY → Prop} {J58 J91 : Int32 → Int32 → (Nat → Int32) → (Nat → Int32) → (Nat → Int32) → (Nat → Int32) → (Nat → Int32) → (Nat → Int32) → (Nat → Int32) → (Nat → Int32) → (Nat → Int32) → (Nat → Int32) → (Nat → Int32) → (Nat → Int32) → (Nat → Int32) → (Nat → Int32) → (Nat → Int32) → (Nat → Int32) → (Nat → Int32) → (Nat → Int64) → (Nat → Int64) → (Nat → Int64) → (Nat → Int64) → (Nat → Int32) → (Nat → Int64) → (Nat → Int32) → (Nat → Int32) → (Nat → Int64) → (Nat → Int32) → (Nat → Int32) → (Nat → Int32) → (Nat → Int32) → (Nat → Int32) → (Nat → Int32) → (Nat → Int32) → (Nat → Int32) → (Nat → Int32) → (Nat → Int32) → (Nat → Int32) → (Nat → Int32) → Prop}
theorem ysr_109 {x1 : Int32} {x2 v : Int64} {x4 : Int32} {c : Nat} (hc : c ≤ 61) (h0 : b_set 0 = 0) (H : ∀ k, k ≤ c → (v ≠ 0 → k = fnd b_set v c) → wY_listSets_137 post J58 J91 x1 x2 x4 v (nI k) g_productions g_start (nI c) g_states g_conflicts g_ready g_length g_tokens g_stuck g_scanned g_value g_place b_term b_size b_skipped b_left b_right b_width b_op b_constant b_rank b_grouping b_bTerm b_bSize b_bSkipped b_bLeft b_bWidth b_bOp b_bConstant b_follow b_ends b_first b_last b_none b_set b_leads b_apart b_state b_to b_look b_begins b_nullable b_act b_built b_leadTo b_text b_fits b_token b_stack b_worth) :
    ∀ d k, k + d = c → (v ≠ 0 → ∀ j, j < k → b_set j ≠ v) → wY_listSets_109 post J58 J91 x1 x2 x4 v g_productions g_start (nI c) g_states g_conflicts g_ready g_length g_tokens g_stuck g_scanned g_value g_place b_term b_size b_skipped b_left b_right b_width b_op b_constant b_rank b_grouping b_bTerm b_bSize b_bSkipped b_bLeft b_bWidth b_bOp b_bConstant b_follow b_ends b_first b_last b_none b_set b_leads b_apart b_state b_to b_look b_begins b_nullable b_act b_built b_leadTo b_text b_fits b_token b_stack b_worth (d + 1) (nI k) := by
  intro d
  induction d with
  | zero =>
    intro k hk h
    have : k = c := by omega
    subst this
    exact pk_le k k (fun _ => H k (Nat.le_refl _) (fun hv => (fnd_u (Nat.le_refl _) (h hv) (fun z => absurd z (by omega))).symm)) (fun z => absurd z (by omega))
  | succ d ih =>
    intro k hk h
    refine pk_le c k (fun z => absurd z (by omega)) (fun _ => ⟨vp_in_nI (by omega) (by omega), ?_⟩)
    rw [nI_clamp (show k < 2 ^ 31 by omega)]
    by_cases e : b_set k = v
    · exact br_t e (H k (by omega) (fun hv => (fnd_u (by omega) (h hv) (fun _ => e)).symm))
    · refine br_f e (nm_r (nI_1 k) (ih (k + 1) (by omega) (fun hv j hj => ?_)))
      by_cases z : j = k
      · subst z; exact e
      · exact h hv j (by omega)
theorem yro_91 {s : Nat} {x : Int64} {b0 : Nat × (Nat → Int64) × (Nat → Int32)} (hs : s < b0.1) (hs61 : s < 61) (h1 : 1 ≤ b0.1) (h61 : b0.1 ≤ 61) (h00 : b0.2.1 0 = 0) (hru : ru_ok b_term b_size)
    (Hn : row 61 4 (fun l => rdF (nv b_term) x l 32) s b0 4 = none → ∀ b : Nat × (Nat → Int64) × (Nat → Int32), post 0 (g_productions, g_start, nI b.1, g_states, g_conflicts, g_ready, g_length, g_tokens, g_stuck, g_scanned, g_value, g_place, b_term, b_size, b_skipped, b_left, b_right, b_width, b_op, b_constant, b_rank, b_grouping, b_bTerm, b_bSize, b_bSkipped, b_bLeft, b_bWidth, b_bOp, b_bConstant, b_follow, b_ends, b_first, b_last, b_none, b.2.1, b.2.2, b_apart, b_state, b_to, b_look, b_begins, b_nullable, b_act, b_built, b_leadTo, b_text, b_fits, b_token, b_stack, b_worth))
    (Hs : ∀ b, row 61 4 (fun l => rdF (nv b_term) x l 32) s b0 4 = some b → J58 (nI (s + 1)) (nI b.1) b_term b_size b_skipped b_left b_right b_width b_op b_constant b_rank b_grouping b_bTerm b_bSize b_bSkipped b_bLeft b_bWidth b_bOp b_bConstant b_follow b_ends b_first b_last b_none b.2.1 b.2.2 b_apart b_state b_to b_look b_begins b_nullable b_act b_built b_leadTo b_text b_fits b_token b_stack b_worth) :
    ∀ d l b, l + d = 4 → row 61 4 (fun l => rdF (nv b_term) x l 32) s b0 l = some b → 1 ≤ b.1 → b.1 ≤ 61 → s < b.1 → b.2.1 0 = 0 →
      wY_listSets_91 post J58 (nI s) x g_productions g_start g_states g_conflicts g_ready g_length g_tokens g_stuck g_scanned g_value g_place (d + 1) (nI l) (nI b.1) b_term b_size b_skipped b_left b_right b_width b_op b_constant b_rank b_grouping b_bTerm b_bSize b_bSkipped b_bLeft b_bWidth b_bOp b_bConstant b_follow b_ends b_first b_last b_none b.2.1 b.2.2 b_apart b_state b_to b_look b_begins b_nullable b_act b_built b_leadTo b_text b_fits b_token b_stack b_worth := by
  intro d
  induction d with
  | zero =>
    intro l b hl hr g1 g2 g3 g4
    have : l = 4 := by omega
    subst this
    exact pk_le 4 4 (fun _ => nm_r (nI_1 s) (Hs b hr)) (fun z => absurd z (by omega))
  | succ d ih =>
    intro l b hl hr g1 g2 g3 g4
    refine pk_le 4 l (fun z => absurd z (by omega)) (fun _ => yd_ (by omega) hru ?_)
    generalize hv : rdF (nv b_term) x l 32 = v
    have hrow : row 61 4 (fun l => rdF (nv b_term) x l 32) s b0 (l + 1) = cel 61 (4 * s + l) v b := by
      show (row 61 4 (fun l => rdF (nv b_term) x l 32) s b0 l).bind _ = _
      rw [hr, ← hv]; rfl
    have e4 : 4 * nI s + nI l = nI (4 * s + l) := by rw [show (4 : Int32) = nI 4 from rfl, pk_mul, nI_add]
    have i4 : vp_in (nI (4 * s + l)) 248 := vp_in_nI (by omega) (by omega)
    have next : ∀ b', cel 61 (4 * s + l) v b = some b' → wY_listSets_91 post J58 (nI s) x g_productions g_start g_states g_conflicts g_ready g_length g_tokens g_stuck g_scanned g_value g_place (d + 1) (nI (l + 1)) (nI b'.1) b_term b_size b_skipped b_left b_right b_width b_op b_constant b_rank b_grouping b_bTerm b_bSize b_bSkipped b_bLeft b_bWidth b_bOp b_bConstant b_follow b_ends b_first b_last b_none (b'.2.1) (b'.2.2) b_apart b_state b_to b_look b_begins b_nullable b_act b_built b_leadTo b_text b_fits b_token b_stack b_worth := by
      intro b' hb'
      obtain ⟨c1, c2, c3, -⟩ := cel_c g2 hb'
      exact ih (l + 1) b' (by omega) (hrow.trans hb') (by omega) c2 (by omega) (by rw [c3 0 (by omega)]; exact g4)
    refine ⟨b.1 - 1 + 1, ysr_109 (b_set := b.2.1) (c := b.1) g2 g4 (fun k hk hkv => ?_) (b.1 - 1) 1 (by omega) (fun hv j hj => ?_)⟩
    · by_cases v0 : v = 0
      · refine br_t v0 (br_t v0 ?_)
        rw [e4, nI_clamp (by omega)]
        refine ⟨i4, nm_e (nm_r (nI_1 l) (next (b.1, b.2.1, upd b.2.2 (4 * s + l) (-1)) ?_))⟩
        unfold cel; rw [if_pos v0]
      · have ek := hkv v0
        obtain ⟨f1, f2, f3⟩ := fnd_s b.2.1 v b.1
        refine br_f v0 (pk_eq k b.1 (fun e => pk_eq b.1 61 (fun e61 => ?_) (fun n61 => nm_r (nI_1 b.1) ?_)) (fun n => br_f v0 ?_))
        · have : cel 61 (4 * s + l) v b = none := by
            unfold cel; rw [if_neg v0, if_pos (by omega)]
          rw [this] at hrow
          have h4 := row_n hrow (3 - l)
          rw [show l + 1 + (3 - l) = 4 by omega] at h4
          exact Hn h4 b
        · rw [nI_clamp (show b.1 < 2 ^ 31 by omega)]
          refine ⟨vp_in_nI (by omega) (by omega), nm_e (br_f v0 ?_)⟩
          rw [e4, nI_clamp (show 4 * s + l < 2 ^ 31 by omega), e]
          refine ⟨i4, nm_e (nm_r (nI_1 l) (next (b.1 + 1, vp_updL b.2.1 b.1 v, upd b.2.2 (4 * s + l) (nI b.1)) ?_))⟩
          unfold cel; rw [if_neg v0, if_neg (by omega), if_pos (by omega)]
        · rw [e4, nI_clamp (show 4 * s + l < 2 ^ 31 by omega)]
          refine ⟨i4, nm_e (nm_r (nI_1 l) (next (b.1, b.2.1, upd b.2.2 (4 * s + l) (nI k)) ?_))⟩
          unfold cel; rw [if_neg v0, if_neg (by omega), if_neg (by omega), ← ek]
    · have : j = 0 := by omega
      subst this
      rw [g4]; exact fun z => hv z.symm
theorem yro_58 {b0 : Nat × (Nat → Int64) × (Nat → Int32)} (h1 : b0.1 = 1) (h00 : b0.2.1 0 = 0) (hru : ru_ok b_term b_size)
    (Hn : bf 61 4 (trY b_follow (nv b_term) g_start) b0 61 = none → ∀ b : Nat × (Nat → Int64) × (Nat → Int32), post 0 (g_productions, g_start, nI b.1, g_states, g_conflicts, g_ready, g_length, g_tokens, g_stuck, g_scanned, g_value, g_place, b_term, b_size, b_skipped, b_left, b_right, b_width, b_op, b_constant, b_rank, b_grouping, b_bTerm, b_bSize, b_bSkipped, b_bLeft, b_bWidth, b_bOp, b_bConstant, b_follow, b_ends, b_first, b_last, b_none, b.2.1, b.2.2, b_apart, b_state, b_to, b_look, b_begins, b_nullable, b_act, b_built, b_leadTo, b_text, b_fits, b_token, b_stack, b_worth))
    (Hs : ∀ b, bf 61 4 (trY b_follow (nv b_term) g_start) b0 61 = some b → post 1 (g_productions, g_start, nI b.1, g_states, g_conflicts, g_ready, g_length, g_tokens, g_stuck, g_scanned, g_value, g_place, b_term, b_size, b_skipped, b_left, b_right, b_width, b_op, b_constant, b_rank, b_grouping, b_bTerm, b_bSize, b_bSkipped, b_bLeft, b_bWidth, b_bOp, b_bConstant, b_follow, b_ends, b_first, b_last, b_none, b.2.1, b.2.2, b_apart, b_state, b_to, b_look, b_begins, b_nullable, b_act, b_built, b_leadTo, b_text, b_fits, b_token, b_stack, b_worth)) :
    ∀ d s b, s + d = 61 → bf 61 4 (trY b_follow (nv b_term) g_start) b0 s = some b →
      wY_listSets_58 post g_productions g_start g_states g_conflicts g_ready g_length g_tokens g_stuck g_scanned g_value g_place (d + 1) (nI s) (nI b.1) b_term b_size b_skipped b_left b_right b_width b_op b_constant b_rank b_grouping b_bTerm b_bSize b_bSkipped b_bLeft b_bWidth b_bOp b_bConstant b_follow b_ends b_first b_last b_none b.2.1 b.2.2 b_apart b_state b_to b_look b_begins b_nullable b_act b_built b_leadTo b_text b_fits b_token b_stack b_worth := by
  intro d
  induction d with
  | zero =>
    intro s b hs hb
    have : s = 61 := by omega
    subst this
    obtain ⟨⟨i1, i2, -⟩, -⟩ := bf_i h1 (by omega) 61 b hb
    exact pk_le b.1 61 (fun _ => Hs b hb) (fun z => absurd z (by omega))
  | succ d ih =>
    intro s b hs hb
    obtain ⟨⟨i1, i2, i3⟩, i4⟩ := bf_i h1 (by omega) s b hb
    rw [h00] at i4
    refine pk_le b.1 s (fun z => ?_) (fun z => ?_)
    · have := bf_e hb z (61 - s)
      rw [show s + (61 - s) = 61 by omega] at this
      exact Hs b this
    · have hstep : bf 61 4 (trY b_follow (nv b_term) g_start) b0 (s + 1) = row 61 4 (trY b_follow (nv b_term) g_start s (b.2.1 s)) s b 4 := by
        show (bf 61 4 (trY b_follow (nv b_term) g_start) b0 s).bind _ = _
        rw [hb]
        show (if s < b.1 then _ else _) = _
        rw [if_pos z]
      have go : ∀ x : Int64, (if s = 0 then g_start else afF b_follow (b.2.1 s) 32) = x → ∃ n91 : Nat, wY_listSets_91 post (wY_listSets_58 post g_productions g_start g_states g_conflicts g_ready g_length g_tokens g_stuck g_scanned g_value g_place (d + 1)) (nI s) x g_productions g_start g_states g_conflicts g_ready g_length g_tokens g_stuck g_scanned g_value g_place n91 0 (nI b.1) b_term b_size b_skipped b_left b_right b_width b_op b_constant b_rank b_grouping b_bTerm b_bSize b_bSkipped b_bLeft b_bWidth b_bOp b_bConstant b_follow b_ends b_first b_last b_none b.2.1 b.2.2 b_apart b_state b_to b_look b_begins b_nullable b_act b_built b_leadTo b_text b_fits b_token b_stack b_worth := by
        intro x hx
        have ef : trY b_follow (nv b_term) g_start s (b.2.1 s) = fun l => rdF (nv b_term) x l 32 := by
          funext l; unfold trY; rw [hx]
        rw [ef] at hstep
        refine ⟨5, yro_91 (b0 := b) z (by omega) i1 i2 i4 hru (fun hn b' => ?_) (fun b' hb' => ?_) 4 0 b (by omega) rfl i1 i2 z i4⟩
        · rw [hn] at hstep
          have := bf_n hstep (60 - s)
          rw [show s + 1 + (60 - s) = 61 by omega] at this
          exact Hn this b'
        · rw [hb'] at hstep
          exact ih (s + 1) b' (by omega) hstep
      refine pk_eq s 0 (fun e => go g_start (if_pos e)) (fun n => ⟨vp_in_nI (by omega) (by omega), yf_ ?_⟩)
      rw [nI_clamp (show s < 2 ^ 31 by omega)]
      exact go _ (if_neg n)
/-- the reference's listing of sets -/
theorem y_sets (hru : ru_ok b_term b_size) (hw : rwf (nv b_term) (nv b_size))
    (H : ∀ (start : Int64) (ends fi la : Nat → Int64) (no : Nat → Int32) (fo : Nat → Int64), yLaid (nv b_term) (nv b_size) 4 start ends fo →
      (bf 61 4 (trY fo (nv b_term) start) (1, vp_updL b_set 0 0, b_leads) 61 = none → ∀ b : Nat × (Nat → Int64) × (Nat → Int32), post 0 (g_productions, start, nI b.1, g_states, g_conflicts, g_ready, g_length, g_tokens, g_stuck, g_scanned, g_value, g_place, b_term, b_size, b_skipped, b_left, b_right, b_width, b_op, b_constant, b_rank, b_grouping, b_bTerm, b_bSize, b_bSkipped, b_bLeft, b_bWidth, b_bOp, b_bConstant, fo, ends, fi, la, no, b.2.1, b.2.2, b_apart, b_state, b_to, b_look, b_begins, b_nullable, b_act, b_built, b_leadTo, b_text, b_fits, b_token, b_stack, b_worth)) ∧
      (∀ b, bf 61 4 (trY fo (nv b_term) start) (1, vp_updL b_set 0 0, b_leads) 61 = some b → post 1 (g_productions, start, nI b.1, g_states, g_conflicts, g_ready, g_length, g_tokens, g_stuck, g_scanned, g_value, g_place, b_term, b_size, b_skipped, b_left, b_right, b_width, b_op, b_constant, b_rank, b_grouping, b_bTerm, b_bSize, b_bSkipped, b_bLeft, b_bWidth, b_bOp, b_bConstant, fo, ends, fi, la, no, b.2.1, b.2.2, b_apart, b_state, b_to, b_look, b_begins, b_nullable, b_act, b_built, b_leadTo, b_text, b_fits, b_token, b_stack, b_worth))) :
    wpY_listSets post (g_productions, g_start, g_sets, g_states, g_conflicts, g_ready, g_length, g_tokens, g_stuck, g_scanned, g_value, g_place, b_term, b_size, b_skipped, b_left, b_right, b_width, b_op, b_constant, b_rank, b_grouping, b_bTerm, b_bSize, b_bSkipped, b_bLeft, b_bWidth, b_bOp, b_bConstant, b_follow, b_ends, b_first, b_last, b_none, b_set, b_leads, b_apart, b_state, b_to, b_look, b_begins, b_nullable, b_act, b_built, b_leadTo, b_text, b_fits, b_token, b_stack, b_worth) := by
  refine ⟨33, yl_7 hru hw (fun start ends fi la no fo h => ⟨62, ?_⟩) 32 0 b_follow (by omega) (fun k hk => absurd hk (Nat.not_lt_zero _))⟩
  obtain ⟨Hn, Hs⟩ := H start ends fi la no fo h
  exact yro_58 (b_follow := fo) (b_ends := ends) (b_first := fi) (b_last := la) (b_none := no) (b0 := (1, vp_updL b_set 0 0, b_leads)) rfl (show vp_updL b_set 0 0 0 = 0 from ul_s) hru Hn Hs 61 0 _ (by omega) rfl
end
end
section
/-! the component's places: numbered one after the other -/
def lcB (tm sz : Nat → Nat) (q : Nat) : Bool := decide (q < 32) && (decide (q % 8 < sz (q / 8)) && decide (tm q < 5))
def lcn (tm sz : Nat → Nat) : Nat → Nat
  | 0 => 0
  | q + 1 => lcn tm sz q + (if lcB tm sz q then 1 else 0)
theorem lcn_m {tm sz : Nat → Nat} (q : Nat) : ∀ x, lcn tm sz q ≤ lcn tm sz (q + x)
  | 0 => Nat.le_refl _
  | x + 1 => Nat.le_trans (lcn_m q x) (Nat.le_add_right _ _)
theorem lcn_lt {tm sz : Nat → Nat} {q q' : Nat} (h : lcB tm sz q = true) (hq : q < q') : lcn tm sz q < lcn tm sz q' := by
  have h1 : lcn tm sz (q + 1) = lcn tm sz q + 1 := by show _ + (if _ then 1 else 0) = _; rw [if_pos h]
  have h2 := lcn_m (tm := tm) (sz := sz) (q + 1) (q' - (q + 1))
  rw [show q + 1 + (q' - (q + 1)) = q' by omega] at h2
  omega
theorem lcn_inj {tm sz : Nat → Nat} {q q' : Nat} (h : lcB tm sz q = true) (h' : lcB tm sz q' = true) (e : lcn tm sz q = lcn tm sz q') : q = q' := by
  rcases Nat.lt_trichotomy q q' with z | z | z
  · have := lcn_lt h z; omega
  · exact z
  · have := lcn_lt h' z; omega
theorem lcn_on {tm sz : Nat → Nat} : ∀ N p, p < lcn tm sz N → ∃ q, q < N ∧ lcB tm sz q = true ∧ lcn tm sz q = p
  | 0, p, h => absurd h (Nat.not_lt_zero _)
  | N + 1, p, h => by
    by_cases z : p < lcn tm sz N
    · obtain ⟨q, a, b⟩ := lcn_on N p z
      exact ⟨q, by omega, b⟩
    · have h' : p < lcn tm sz N + (if lcB tm sz N then 1 else 0) := h
      by_cases y : lcB tm sz N = true
      · rw [if_pos y] at h'
        exact ⟨N, by omega, y, by omega⟩
      · rw [if_neg y] at h'; omega
theorem lcn_2 {tm sz : Nat → Nat} {r : Nat} (h8 : sz r ≤ 8) (hw : ∀ k, k < sz r → tk (tm (8 * r + k)) ≤ dp tm (8 * r) k) : ∀ k, k ≤ sz r → 2 * lcn tm sz (8 * r + k) ≤ 2 * lcn tm sz (8 * r) + k + dp tm (8 * r) k
  | 0, _ => by show 2 * lcn tm sz (8 * r) ≤ _; omega
  | k + 1, hk => by
    have ih := lcn_2 h8 hw k (by omega)
    have h1 : lcn tm sz (8 * r + k + 1) = lcn tm sz (8 * r + k) + (if lcB tm sz (8 * r + k) then 1 else 0) := rfl
    have h2 : dp tm (8 * r) (k + 1) = dp tm (8 * r) k + 1 - tk (tm (8 * r + k)) := rfl
    have h3 := hw k (by omega)
    have h4 := tk_c (tm (8 * r + k))
    have h5 := tk_2 (tm (8 * r + k))
    rw [← Nat.add_assoc, h1]
    by_cases z : lcB tm sz (8 * r + k) = true
    · rw [if_pos z]
      have : tm (8 * r + k) < 5 := by unfold lcB at z; simp at z; exact z.2.2
      have := h4.1 this
      omega
    · rw [if_neg z]; omega
theorem lcn_e {tm sz : Nat → Nat} {r : Nat} (h8 : sz r ≤ 8) : ∀ x, sz r + x ≤ 8 → lcn tm sz (8 * r + (sz r + x)) = lcn tm sz (8 * r + sz r)
  | 0, _ => rfl
  | x + 1, hx => by
    have h1 : lcn tm sz (8 * r + (sz r + x) + 1) = lcn tm sz (8 * r + (sz r + x)) + (if lcB tm sz (8 * r + (sz r + x)) then 1 else 0) := rfl
    have h2 : lcB tm sz (8 * r + (sz r + x)) = false := by
      unfold lcB
      rw [show (8 * r + (sz r + x)) / 8 = r by omega, show (8 * r + (sz r + x)) % 8 = sz r + x by omega, decide_eq_false (show ¬ sz r + x < sz r by omega)]
      simp
    rw [show 8 * r + (sz r + (x + 1)) = 8 * r + (sz r + x) + 1 by omega, h1, h2, lcn_e h8 x (by omega)]
    rfl
theorem lcn_4 {tm sz : Nat → Nat} (h : rwf tm sz) : ∀ r, r ≤ 4 → lcn tm sz (8 * r) ≤ 4 * r
  | 0, _ => Nat.le_refl _
  | r + 1, hr => by
    have ih := lcn_4 h r (by omega)
    have h8 := h.2.1 r
    have h1 := lcn_2 h8 (h.2.2 r (by omega)).1 (sz r) (Nat.le_refl _)
    have h2 := lcn_e (tm := tm) h8 (8 - sz r) (by omega)
    rw [show sz r + (8 - sz r) = 8 by omega, show 8 * r + 8 = 8 * (r + 1) by omega] at h2
    rcases (h.2.2 r (by omega)).2 with z | z
    · rw [z] at h2; rw [h2]
      show lcn tm sz (8 * r) ≤ _
      omega
    · rw [z] at h1; omega
theorem lcn_16 {tm sz : Nat → Nat} (h : rwf tm sz) {r k : Nat} (hr : r < 4) (hk : k ≤ sz r) : lcn tm sz (8 * r + k) ≤ 4 * r + 4 := by
  have h8 := h.2.1 r
  have h0 := lcn_4 h r (by omega)
  have h1 := lcn_2 h8 (h.2.2 r hr).1 k hk
  have h2 := dp_dn (h.2.2 r hr).1 (sz r - k) k (by omega)
  rcases (h.2.2 r hr).2 with z | z
  · have : k = 0 := by omega
    subst this
    show lcn tm sz (8 * r) ≤ _
    omega
  · rw [z] at h2; omega
/-- bits of a set of places, against the set of cells -/
def rpB (lc : Nat → Bool) (cn : Nat → Nat) (us : Nat) (x : Int32) (F : Nat → Bool) : Prop := (∀ q, lc q = true → bt x (cn q) = F q) ∧ ∀ p, us ≤ p → bt x p = false
theorem rp_or {lc : Nat → Bool} {cn : Nat → Nat} {us : Nat} {x y : Int32} {F G : Nat → Bool} (h : rpB lc cn us x F) (g : rpB lc cn us y G) : rpB lc cn us (x ||| y) (fun q => F q || G q) :=
  ⟨fun q hq => by rw [b_or, h.1 q hq, g.1 q hq], fun p hp => by rw [b_or, h.2 p hp, g.2 p hp]; rfl⟩
theorem rp_us {lc : Nat → Bool} {cn : Nat → Nat} {us us' : Nat} {x : Int32} {F : Nat → Bool} (h : rpB lc cn us x F) (hu : us ≤ us') : rpB lc cn us' x F := ⟨h.1, fun p hp => h.2 p (by omega)⟩
theorem rp_cg {lc : Nat → Bool} {cn : Nat → Nat} {us : Nat} {x : Int32} {F G : Nat → Bool} (h : rpB lc cn us x F) (e : ∀ q, lc q = true → F q = G q) : rpB lc cn us x G := ⟨fun q hq => (h.1 q hq).trans (e q hq), h.2⟩
def RXs (lc : Nat → Bool) (cn : Nat → Nat) (s : (Nat → Nat → Bool) × (Nat → Nat → Bool) × (Nat → Bool) × (Nat → Nat → Bool)) (d us : Nat) (he ta em fo : Nat → Int32) : Prop :=
  (∀ e, e < d → rpB lc cn us (he e) (s.1 e)) ∧ (∀ e, e < d → rpB lc cn us (ta e) (s.2.1 e)) ∧ (∀ e, e < d → em e = b2 (s.2.2.1 e)) ∧ (∀ q, lc q = true → rpB lc cn us (fo (cn q)) (s.2.2.2 q))
section
variable {f_productionCount f_textLength f_anythingBuilt f_tokenCount f_parseValue f_parsePlace : Int32} {a_ruleTerms a_ruleLengths a_skips a_grammar a_ranks a_groupings a_text a_heads a_tails a_empties a_placeLetters a_followers a_ruleEnds : Nat → Int32} {a_sets : Nat → Int64} {a_steps a_classes a_finerClasses : Nat → Int32} {a_states : Nat → Int64} {a_moves a_begins a_lookaheads a_builtCounts a_builtSteps a_builtMatches a_builtSkips a_builtGrammar a_builtMoves a_builtActions a_tokenRules a_tokenBegins a_tokenEnds a_stackStates a_stackValues : Nat → Int32} {post : SX → Prop}
theorem xf_2 {x y : Int32} {f0 : Nat → Int32} (H : ∀ fo : Nat → Int32, (∀ p, p < 16 → ∀ i, bt (fo p) i = (bt (f0 p) i || (bt x p && bt y i))) → (∀ p, 16 ≤ p → fo p = f0 p) → post (f_productionCount, f_textLength, f_anythingBuilt, f_tokenCount, f_parseValue, f_parsePlace, a_ruleTerms, a_ruleLengths, a_skips, a_grammar, a_ranks, a_groupings, a_text, a_heads, a_tails, a_empties, a_placeLetters, fo, a_ruleEnds, a_sets, a_steps, a_classes, a_finerClasses, a_states, a_moves, a_begins, a_lookaheads, a_builtCounts, a_builtSteps, a_builtMatches, a_builtSkips, a_builtGrammar, a_builtMoves, a_builtActions, a_tokenRules, a_tokenBegins, a_tokenEnds, a_stackStates, a_stackValues)) :
    ∀ d p (fo : Nat → Int32), p + d = 16 → (∀ k, k < p → ∀ i, bt (fo k) i = (bt (f0 k) i || (bt x k && bt y i))) → (∀ k, p ≤ k → fo k = f0 k) → wX_letFollow_2 post x y f_productionCount f_textLength f_anythingBuilt f_tokenCount f_parseValue f_parsePlace (d + 1) (nI p) a_ruleTerms a_ruleLengths a_skips a_grammar a_ranks a_groupings a_text a_heads a_tails a_empties a_placeLetters fo a_ruleEnds a_sets a_steps a_classes a_finerClasses a_states a_moves a_begins a_lookaheads a_builtCounts a_builtSteps a_builtMatches a_builtSkips a_builtGrammar a_builtMoves a_builtActions a_tokenRules a_tokenBegins a_tokenEnds a_stackStates a_stackValues := by
  intro d
  induction d with
  | zero =>
    intro p fo hp h1 h2
    have : p = 16 := by omega
    subst this
    exact pk_le 16 16 (fun _ => H fo h1 h2) (fun z => absurd z (by omega))
  | succ d ih =>
    intro p fo hp h1 h2
    have ip : vp_in (nI p) 17 := vp_in_nI (by omega) (by omega)
    refine pk_le 16 p (fun z => absurd z (by omega)) (fun _ => zc_b0 p (fun hb => nm_r (nI_1 p) (ih (p + 1) fo (by omega) ?_ (fun k hk => h2 k (by omega)))) (fun hb => ⟨ip, ip, ?_⟩))
    · intro k hk i
      by_cases e : k = p
      · subst e; rw [h2 k (Nat.le_refl _), hb]; simp
      · exact h1 k (by omega) i
    · rw [nI_clamp (show p < 2 ^ 31 by omega)]
      refine nm_e (nm_r (nI_1 p) (ih (p + 1) _ (by omega) ?_ ?_))
      · intro k hk i
        by_cases e : k = p
        · subst e; rw [pk_us, b_or, h2 k (Nat.le_refl _), hb, Bool.true_and]
        · rw [pk_un e]; exact h1 k (by omega) i
      · intro k hk
        rw [pk_un (by omega)]; exact h2 k (by omega)
theorem xf_ {x y : Int32} (H : ∀ fo : Nat → Int32, (∀ p, p < 16 → ∀ i, bt (fo p) i = (bt (a_followers p) i || (bt x p && bt y i))) → (∀ p, 16 ≤ p → fo p = a_followers p) → post (f_productionCount, f_textLength, f_anythingBuilt, f_tokenCount, f_parseValue, f_parsePlace, a_ruleTerms, a_ruleLengths, a_skips, a_grammar, a_ranks, a_groupings, a_text, a_heads, a_tails, a_empties, a_placeLetters, fo, a_ruleEnds, a_sets, a_steps, a_classes, a_finerClasses, a_states, a_moves, a_begins, a_lookaheads, a_builtCounts, a_builtSteps, a_builtMatches, a_builtSkips, a_builtGrammar, a_builtMoves, a_builtActions, a_tokenRules, a_tokenBegins, a_tokenEnds, a_stackStates, a_stackValues)) : wpX_letFollow post (f_productionCount, f_textLength, f_anythingBuilt, f_tokenCount, f_parseValue, f_parsePlace, a_ruleTerms, a_ruleLengths, a_skips, a_grammar, a_ranks, a_groupings, a_text, a_heads, a_tails, a_empties, a_placeLetters, a_followers, a_ruleEnds, a_sets, a_steps, a_classes, a_finerClasses, a_states, a_moves, a_begins, a_lookaheads, a_builtCounts, a_builtSteps, a_builtMatches, a_builtSkips, a_builtGrammar, a_builtMoves, a_builtActions, a_tokenRules, a_tokenBegins, a_tokenEnds, a_stackStates, a_stackValues) x y :=
  ⟨17, xf_2 (f0 := a_followers) H 16 0 a_followers (by omega) (fun k hk => absurd hk (Nat.not_lt_zero _)) (fun _ _ => rfl)⟩
theorem xch {e : Nat} {E1 E2 : Bool} (he : e + 1 < 8) (h1 : a_empties e = b2 E1) (h2 : a_empties (e + 1) = b2 E2)
    (H : ∀ fo : Nat → Int32, (∀ p, p < 16 → ∀ i, bt (fo p) i = (bt (a_followers p) i || (bt (a_tails e) p && bt (a_heads (e + 1)) i))) → (∀ p, 16 ≤ p → fo p = a_followers p) →
      post (f_productionCount, f_textLength, f_anythingBuilt, f_tokenCount, f_parseValue, f_parsePlace, a_ruleTerms, a_ruleLengths, a_skips, a_grammar, a_ranks, a_groupings, a_text, if E1 then upd a_heads e (a_heads e ||| a_heads (e + 1)) else a_heads, upd a_tails e (if E2 then a_tails e ||| a_tails (e + 1) else a_tails (e + 1)), upd a_empties e (b2 (E1 && E2)), a_placeLetters, fo, a_ruleEnds, a_sets, a_steps, a_classes, a_finerClasses, a_states, a_moves, a_begins, a_lookaheads, a_builtCounts, a_builtSteps, a_builtMatches, a_builtSkips, a_builtGrammar, a_builtMoves, a_builtActions, a_tokenRules, a_tokenBegins, a_tokenEnds, a_stackStates, a_stackValues)) : wpX_chain post (f_productionCount, f_textLength, f_anythingBuilt, f_tokenCount, f_parseValue, f_parsePlace, a_ruleTerms, a_ruleLengths, a_skips, a_grammar, a_ranks, a_groupings, a_text, a_heads, a_tails, a_empties, a_placeLetters, a_followers, a_ruleEnds, a_sets, a_steps, a_classes, a_finerClasses, a_states, a_moves, a_begins, a_lookaheads, a_builtCounts, a_builtSteps, a_builtMatches, a_builtSkips, a_builtGrammar, a_builtMoves, a_builtActions, a_tokenRules, a_tokenBegins, a_tokenEnds, a_stackStates, a_stackValues) (nI e) (nI (e + 1)) := by
  have i0 : vp_in (nI e) 8 := vp_in_nI (by omega) (by omega)
  have i1 : vp_in (nI (e + 1)) 8 := vp_in_nI (by omega) (by omega)
  have c0 : (nI e).toNatClampNeg = e := nI_clamp (by omega)
  have c1 : (nI (e + 1)).toNatClampNeg = e + 1 := nI_clamp (by omega)
  unfold wpX_chain
  dsimp only
  rw [c0, c1]
  refine ⟨i0, i1, xf_ (fun fo hfo hfo' => ?_)⟩
  dsimp only
  have H := H fo hfo hfo'
  have w40 : ∀ hd : Nat → Int32, hd = (if E1 then upd a_heads e (a_heads e ||| a_heads (e + 1)) else a_heads) → wX_chain_40 post (nI e) (nI (e + 1)) f_productionCount f_textLength f_anythingBuilt f_tokenCount f_parseValue f_parsePlace a_ruleTerms a_ruleLengths a_skips a_grammar a_ranks a_groupings a_text hd a_tails a_empties a_placeLetters fo a_ruleEnds a_sets a_steps a_classes a_finerClasses a_states a_moves a_begins a_lookaheads a_builtCounts a_builtSteps a_builtMatches a_builtSkips a_builtGrammar a_builtMoves a_builtActions a_tokenRules a_tokenBegins a_tokenEnds a_stackStates a_stackValues := by
    intro hd ehd
    subst ehd
    have w76 : ∀ z : Int32, z = (if E2 then a_tails e ||| a_tails (e + 1) else a_tails (e + 1)) → wX_chain_76 post (nI e) (nI (e + 1)) z (nI e) f_productionCount f_textLength f_anythingBuilt f_tokenCount f_parseValue f_parsePlace a_ruleTerms a_ruleLengths a_skips a_grammar a_ranks a_groupings a_text (if E1 then upd a_heads e (a_heads e ||| a_heads (e + 1)) else a_heads) a_tails a_empties a_placeLetters fo a_ruleEnds a_sets a_steps a_classes a_finerClasses a_states a_moves a_begins a_lookaheads a_builtCounts a_builtSteps a_builtMatches a_builtSkips a_builtGrammar a_builtMoves a_builtActions a_tokenRules a_tokenBegins a_tokenEnds a_stackStates a_stackValues := by
      intro z ez
      subst ez
      unfold wX_chain_76
      rw [c0, c1, h1, h2]
      cases E1 with
      | false => exact ⟨i0, nm_e ⟨i0, br_t rfl ⟨i0, nm_e H⟩⟩⟩
      | true =>
        cases E2 with
        | false => exact ⟨i0, nm_e ⟨i0, br_f (by decide) ⟨i1, br_t rfl ⟨i0, nm_e H⟩⟩⟩⟩
        | true => exact ⟨i0, nm_e ⟨i0, br_f (by decide) ⟨i1, br_f (by decide) ⟨i0, nm_e H⟩⟩⟩⟩
    unfold wX_chain_40
    rw [c0, c1, h2]
    cases E2 with
    | false => exact ⟨i1, br_t rfl ⟨i1, w76 _ rfl⟩⟩
    | true => exact ⟨i1, br_f (by decide) ⟨i0, i1, w76 _ rfl⟩⟩
  rw [h1]
  cases E1 with
  | false => exact ⟨i0, br_t rfl (w40 _ rfl)⟩
  | true => exact ⟨i0, br_f (by decide) ⟨i0, i1, i0, nm_e (w40 _ rfl)⟩⟩
theorem xun {e : Nat} {E1 E2 : Bool} (he : e + 1 < 8) (h1 : a_empties e = b2 E1) (h2 : a_empties (e + 1) = b2 E2)
    (H : post (f_productionCount, f_textLength, f_anythingBuilt, f_tokenCount, f_parseValue, f_parsePlace, a_ruleTerms, a_ruleLengths, a_skips, a_grammar, a_ranks, a_groupings, a_text, upd a_heads e (a_heads e ||| a_heads (e + 1)), upd a_tails e (a_tails e ||| a_tails (e + 1)), upd a_empties e (b2 (E1 || E2)), a_placeLetters, a_followers, a_ruleEnds, a_sets, a_steps, a_classes, a_finerClasses, a_states, a_moves, a_begins, a_lookaheads, a_builtCounts, a_builtSteps, a_builtMatches, a_builtSkips, a_builtGrammar, a_builtMoves, a_builtActions, a_tokenRules, a_tokenBegins, a_tokenEnds, a_stackStates, a_stackValues)) : wpX_unite post (f_productionCount, f_textLength, f_anythingBuilt, f_tokenCount, f_parseValue, f_parsePlace, a_ruleTerms, a_ruleLengths, a_skips, a_grammar, a_ranks, a_groupings, a_text, a_heads, a_tails, a_empties, a_placeLetters, a_followers, a_ruleEnds, a_sets, a_steps, a_classes, a_finerClasses, a_states, a_moves, a_begins, a_lookaheads, a_builtCounts, a_builtSteps, a_builtMatches, a_builtSkips, a_builtGrammar, a_builtMoves, a_builtActions, a_tokenRules, a_tokenBegins, a_tokenEnds, a_stackStates, a_stackValues) (nI e) (nI (e + 1)) := by
  have i0 : vp_in (nI e) 8 := vp_in_nI (by omega) (by omega)
  have i1 : vp_in (nI (e + 1)) 8 := vp_in_nI (by omega) (by omega)
  have c0 : (nI e).toNatClampNeg = e := nI_clamp (by omega)
  have c1 : (nI (e + 1)).toNatClampNeg = e + 1 := nI_clamp (by omega)
  unfold wpX_unite
  dsimp only
  rw [c0, c1, h1, h2]
  refine ⟨i0, i1, i0, nm_e ⟨i0, i1, i0, nm_e ⟨i0, ?_⟩⟩⟩
  cases E1 with
  | false =>
    cases E2 with
    | false => exact br_t rfl ⟨i1, br_t rfl ⟨i0, nm_e H⟩⟩
    | true => exact br_t rfl ⟨i1, br_f (by decide) ⟨i0, nm_e H⟩⟩
  | true => exact br_f (by decide) ⟨i0, nm_e H⟩
theorem xre {e t : Nat} (he : e < 8) (ht : 7 ≤ t) (ht' : t < 10)
    (H : ∀ fo : Nat → Int32, (∀ p, p < 16 → ∀ i, bt (fo p) i = (bt (a_followers p) i || (decide (t < 9) && (bt (a_tails e) p && bt (a_heads e) i)))) → (∀ p, 16 ≤ p → fo p = a_followers p) →
      post (f_productionCount, f_textLength, f_anythingBuilt, f_tokenCount, f_parseValue, f_parsePlace, a_ruleTerms, a_ruleLengths, a_skips, a_grammar, a_ranks, a_groupings, a_text, a_heads, a_tails, if t = 8 then a_empties else upd a_empties e 1, a_placeLetters, fo, a_ruleEnds, a_sets, a_steps, a_classes, a_finerClasses, a_states, a_moves, a_begins, a_lookaheads, a_builtCounts, a_builtSteps, a_builtMatches, a_builtSkips, a_builtGrammar, a_builtMoves, a_builtActions, a_tokenRules, a_tokenBegins, a_tokenEnds, a_stackStates, a_stackValues)) : wpX_repeat post (f_productionCount, f_textLength, f_anythingBuilt, f_tokenCount, f_parseValue, f_parsePlace, a_ruleTerms, a_ruleLengths, a_skips, a_grammar, a_ranks, a_groupings, a_text, a_heads, a_tails, a_empties, a_placeLetters, a_followers, a_ruleEnds, a_sets, a_steps, a_classes, a_finerClasses, a_states, a_moves, a_begins, a_lookaheads, a_builtCounts, a_builtSteps, a_builtMatches, a_builtSkips, a_builtGrammar, a_builtMoves, a_builtActions, a_tokenRules, a_tokenBegins, a_tokenEnds, a_stackStates, a_stackValues) (nI e) (nI t) := by
  have i0 : vp_in (nI e) 8 := vp_in_nI (by omega) (by omega)
  have c0 : (nI e).toNatClampNeg = e := nI_clamp (by omega)
  have w22 : ∀ fo : Nat → Int32, post (f_productionCount, f_textLength, f_anythingBuilt, f_tokenCount, f_parseValue, f_parsePlace, a_ruleTerms, a_ruleLengths, a_skips, a_grammar, a_ranks, a_groupings, a_text, a_heads, a_tails, if t = 8 then a_empties else upd a_empties e 1, a_placeLetters, fo, a_ruleEnds, a_sets, a_steps, a_classes, a_finerClasses, a_states, a_moves, a_begins, a_lookaheads, a_builtCounts, a_builtSteps, a_builtMatches, a_builtSkips, a_builtGrammar, a_builtMoves, a_builtActions, a_tokenRules, a_tokenBegins, a_tokenEnds, a_stackStates, a_stackValues) → wX_repeat_22 post (nI e) (nI t) f_productionCount f_textLength f_anythingBuilt f_tokenCount f_parseValue f_parsePlace a_ruleTerms a_ruleLengths a_skips a_grammar a_ranks a_groupings a_text a_heads a_tails a_empties a_placeLetters fo a_ruleEnds a_sets a_steps a_classes a_finerClasses a_states a_moves a_begins a_lookaheads a_builtCounts a_builtSteps a_builtMatches a_builtSkips a_builtGrammar a_builtMoves a_builtActions a_tokenRules a_tokenBegins a_tokenEnds a_stackStates a_stackValues := by
    intro fo h
    unfold wX_repeat_22
    rw [c0]
    refine pk_eq t 7 (fun e7 => ⟨i0, nm_e ?_⟩) (fun n7 => pk_eq t 9 (fun e9 => ⟨i0, nm_e ?_⟩) (fun n9 => ?_))
    · rw [if_neg (by omega)] at h; exact h
    · rw [if_neg (by omega)] at h; exact h
    · rw [if_pos (by omega)] at h; exact h
  unfold wpX_repeat
  dsimp only
  rw [c0]
  refine pk_eq t 9 (fun e9 => w22 _ (H a_followers (fun p hp i => ?_) (fun _ _ => rfl))) (fun n9 => ⟨i0, i0, xf_ (fun fo h1 h2 => w22 fo (H fo (fun p hp i => ?_) h2))⟩)
  · rw [show decide (t < 9) = false from decide_eq_false (by omega)]; simp
  · rw [show decide (t < 9) = true from decide_eq_true (by omega), Bool.true_and]; exact h1 p hp i
end
section
variable {f_productionCount f_textLength f_anythingBuilt f_tokenCount f_parseValue f_parsePlace : Int32} {a_ruleTerms a_ruleLengths a_skips a_grammar a_ranks a_groupings a_text a_heads a_tails a_empties a_placeLetters a_followers a_ruleEnds : Nat → Int32} {a_sets : Nat → Int64} {a_steps a_classes a_finerClasses : Nat → Int32} {a_states : Nat → Int64} {a_moves a_begins a_lookaheads a_builtCounts a_builtSteps a_builtMatches a_builtSkips a_builtGrammar a_builtMoves a_builtActions a_tokenRules a_tokenBegins a_tokenEnds a_stackStates a_stackValues : Nat → Int32} {post : Int32 → SX → Prop}
/-- one term -/
theorem xg_ {lc : Nat → Bool} {cn : Nat → Nat} {x1 : Int32} {n t c d us k : Nat} {s : (Nat → Nat → Bool) × (Nat → Nat → Bool) × (Nat → Bool) × (Nat → Nat → Bool)} (ht : t < 10) (hd : d ≤ 4) (htk : tk t ≤ d) (hus : t < 5 → us < 16)
    (hcn : ∀ q, lc q = true → cn q < 16) (hus16 : us ≤ 16) (hk : k < 8) (hlc : t < 5 → lc c = true ∧ cn c = us) (hinj : ∀ q q', lc q = true → lc q' = true → cn q = cn q' → q = q')
    (h : RXs lc cn s d us a_heads a_tails a_empties a_followers)
    (J : ∀ (he ta em pl fo : Nat → Int32), RXs lc cn (gst t c d s) (d + 1 - tk t) (if t < 5 then us + 1 else us) he ta em fo → pl = (if t < 5 then upd a_placeLetters us (nI t) else a_placeLetters) → (∀ p, 16 ≤ p → fo p = a_followers p) →
      wX_layOutRule_8 post x1 n (nI (if t < 5 then us + 1 else us)) (nI (d + 1 - tk t)) (nI (k + 1)) f_productionCount f_textLength f_anythingBuilt f_tokenCount f_parseValue f_parsePlace a_ruleTerms a_ruleLengths a_skips a_grammar a_ranks a_groupings a_text he ta em pl fo a_ruleEnds a_sets a_steps a_classes a_finerClasses a_states a_moves a_begins a_lookaheads a_builtCounts a_builtSteps a_builtMatches a_builtSkips a_builtGrammar a_builtMoves a_builtActions a_tokenRules a_tokenBegins a_tokenEnds a_stackStates a_stackValues) :
    (4 < nI t → ((nI t = 5 → (∀ x4_92, x4_92 = nI d + (-1) → wpX_chain (fun u => match u with | (f_productionCount, f_textLength, f_anythingBuilt, f_tokenCount, f_parseValue, f_parsePlace, a_ruleTerms, a_ruleLengths, a_skips, a_grammar, a_ranks, a_groupings, a_text, a_heads, a_tails, a_empties, a_placeLetters, a_followers, a_ruleEnds, a_sets, a_steps, a_classes, a_finerClasses, a_states, a_moves, a_begins, a_lookaheads, a_builtCounts, a_builtSteps, a_builtMatches, a_builtSkips, a_builtGrammar, a_builtMoves, a_builtActions, a_tokenRules, a_tokenBegins, a_tokenEnds, a_stackStates, a_stackValues) => (∀ x5_133, x5_133 = nI k + 1 → (wX_layOutRule_8 post x1 n (nI us) x4_92 x5_133 f_productionCount f_textLength f_anythingBuilt f_tokenCount f_parseValue f_parsePlace a_ruleTerms a_ruleLengths a_skips a_grammar a_ranks a_groupings a_text a_heads a_tails a_empties a_placeLetters a_followers a_ruleEnds a_sets a_steps a_classes a_finerClasses a_states a_moves a_begins a_lookaheads a_builtCounts a_builtSteps a_builtMatches a_builtSkips a_builtGrammar a_builtMoves a_builtActions a_tokenRules a_tokenBegins a_tokenEnds a_stackStates a_stackValues))) (f_productionCount, f_textLength, f_anythingBuilt, f_tokenCount, f_parseValue, f_parsePlace, a_ruleTerms, a_ruleLengths, a_skips, a_grammar, a_ranks, a_groupings, a_text, a_heads, a_tails, a_empties, a_placeLetters, a_followers, a_ruleEnds, a_sets, a_steps, a_classes, a_finerClasses, a_states, a_moves, a_begins, a_lookaheads, a_builtCounts, a_builtSteps, a_builtMatches, a_builtSkips, a_builtGrammar, a_builtMoves, a_builtActions, a_tokenRules, a_tokenBegins, a_tokenEnds, a_stackStates, a_stackValues) (x4_92 - 1) x4_92))
        ∧ (¬ nI t = 5 → ((nI t = 6 → (∀ x4_50, x4_50 = nI d + (-1) → wpX_unite (fun u => match u with | (f_productionCount, f_textLength, f_anythingBuilt, f_tokenCount, f_parseValue, f_parsePlace, a_ruleTerms, a_ruleLengths, a_skips, a_grammar, a_ranks, a_groupings, a_text, a_heads, a_tails, a_empties, a_placeLetters, a_followers, a_ruleEnds, a_sets, a_steps, a_classes, a_finerClasses, a_states, a_moves, a_begins, a_lookaheads, a_builtCounts, a_builtSteps, a_builtMatches, a_builtSkips, a_builtGrammar, a_builtMoves, a_builtActions, a_tokenRules, a_tokenBegins, a_tokenEnds, a_stackStates, a_stackValues) => (∀ x5_91, x5_91 = nI k + 1 → (wX_layOutRule_8 post x1 n (nI us) x4_50 x5_91 f_productionCount f_textLength f_anythingBuilt f_tokenCount f_parseValue f_parsePlace a_ruleTerms a_ruleLengths a_skips a_grammar a_ranks a_groupings a_text a_heads a_tails a_empties a_placeLetters a_followers a_ruleEnds a_sets a_steps a_classes a_finerClasses a_states a_moves a_begins a_lookaheads a_builtCounts a_builtSteps a_builtMatches a_builtSkips a_builtGrammar a_builtMoves a_builtActions a_tokenRules a_tokenBegins a_tokenEnds a_stackStates a_stackValues))) (f_productionCount, f_textLength, f_anythingBuilt, f_tokenCount, f_parseValue, f_parsePlace, a_ruleTerms, a_ruleLengths, a_skips, a_grammar, a_ranks, a_groupings, a_text, a_heads, a_tails, a_empties, a_placeLetters, a_followers, a_ruleEnds, a_sets, a_steps, a_classes, a_finerClasses, a_states, a_moves, a_begins, a_lookaheads, a_builtCounts, a_builtSteps, a_builtMatches, a_builtSkips, a_builtGrammar, a_builtMoves, a_builtActions, a_tokenRules, a_tokenBegins, a_tokenEnds, a_stackStates, a_stackValues) (x4_50 - 1) x4_50))
          ∧ (¬ nI t = 6 → wpX_repeat (fun u => match u with | (f_productionCount, f_textLength, f_anythingBuilt, f_tokenCount, f_parseValue, f_parsePlace, a_ruleTerms, a_ruleLengths, a_skips, a_grammar, a_ranks, a_groupings, a_text, a_heads, a_tails, a_empties, a_placeLetters, a_followers, a_ruleEnds, a_sets, a_steps, a_classes, a_finerClasses, a_states, a_moves, a_begins, a_lookaheads, a_builtCounts, a_builtSteps, a_builtMatches, a_builtSkips, a_builtGrammar, a_builtMoves, a_builtActions, a_tokenRules, a_tokenBegins, a_tokenEnds, a_stackStates, a_stackValues) => (∀ x5_49, x5_49 = nI k + 1 → (wX_layOutRule_8 post x1 n (nI us) (nI d) x5_49 f_productionCount f_textLength f_anythingBuilt f_tokenCount f_parseValue f_parsePlace a_ruleTerms a_ruleLengths a_skips a_grammar a_ranks a_groupings a_text a_heads a_tails a_empties a_placeLetters a_followers a_ruleEnds a_sets a_steps a_classes a_finerClasses a_states a_moves a_begins a_lookaheads a_builtCounts a_builtSteps a_builtMatches a_builtSkips a_builtGrammar a_builtMoves a_builtActions a_tokenRules a_tokenBegins a_tokenEnds a_stackStates a_stackValues))) (f_productionCount, f_textLength, f_anythingBuilt, f_tokenCount, f_parseValue, f_parsePlace, a_ruleTerms, a_ruleLengths, a_skips, a_grammar, a_ranks, a_groupings, a_text, a_heads, a_tails, a_empties, a_placeLetters, a_followers, a_ruleEnds, a_sets, a_steps, a_classes, a_finerClasses, a_states, a_moves, a_begins, a_lookaheads, a_builtCounts, a_builtSteps, a_builtMatches, a_builtSkips, a_builtGrammar, a_builtMoves, a_builtActions, a_tokenRules, a_tokenBegins, a_tokenEnds, a_stackStates, a_stackValues) (nI d - 1) (nI t))))))
      ∧ (¬ 4 < nI t → (vp_in (nI us) 16 ∧ ∀ a_placeLetters_135, a_placeLetters_135 = upd a_placeLetters (nI us).toNatClampNeg (nI t) → (vp_in (nI d) 8 ∧ ∀ a_heads_137, a_heads_137 = upd a_heads (nI d).toNatClampNeg ((1 : Int32) <<< (nI us &&& 31)) → (vp_in (nI d) 8 ∧ ∀ a_tails_139, a_tails_139 = upd a_tails (nI d).toNatClampNeg ((1 : Int32) <<< (nI us &&& 31)) → (vp_in (nI d) 8 ∧ ∀ a_empties_141, a_empties_141 = upd a_empties (nI d).toNatClampNeg (vp_nar .boolean 0) → (∀ x3_142, x3_142 = nI us + 1 → (∀ x4_143, x4_143 = nI d + 1 → (∀ x5_144, x5_144 = nI k + 1 → (wX_layOutRule_8 post x1 n x3_142 x4_143 x5_144 f_productionCount f_textLength f_anythingBuilt f_tokenCount f_parseValue f_parsePlace a_ruleTerms a_ruleLengths a_skips a_grammar a_ranks a_groupings a_text a_heads_137 a_tails_139 a_empties_141 a_placeLetters_135 a_followers a_ruleEnds a_sets a_steps a_classes a_finerClasses a_states a_moves a_begins a_lookaheads a_builtCounts a_builtSteps a_builtMatches a_builtSkips a_builtGrammar a_builtMoves a_builtActions a_tokenRules a_tokenBegins a_tokenEnds a_stackStates a_stackValues))))))))) := by
  obtain ⟨F, T, E, G⟩ := s
  obtain ⟨h1, h2, h3, h4⟩ := h
  dsimp only at h1 h2 h3 h4
  have hcc := tk_c t
  refine pk_lt 4 t (fun c4 => pk_eq t 5 (fun e5 => ?_) (fun n5 => pk_eq t 6 (fun e6 => ?_) (fun n6 => ?_))) (fun c4 => ?_)
  · have e2 := hcc.2.1 (Or.inl e5)
    obtain ⟨e, rfl⟩ : ∃ e, d = e + 2 := ⟨d - 2, by omega⟩
    rw [e2, if_neg (by omega), if_neg (by omega), show e + 2 + 1 - 2 = e + 1 by omega] at J
    refine nm_r (pk_m1 (e + 1)) ?_
    rw [nI_pred]
    refine xch (by omega) (h3 e (by omega)) (h3 (e + 1) (by omega)) (fun fo hfo hfo' => ?_)
    dsimp only
    refine nm_r (nI_1 k) (J _ _ _ _ fo ⟨fun j hj => ?_, fun j hj => ?_, fun j hj => ?_, fun q hq => ?_⟩ rfl hfo')
    · unfold gst ub
      rw [if_neg (show ¬ t < 5 by omega), if_pos e5, show e + 2 - 2 = e by omega, show e + 2 - 1 = e + 1 by omega]
      dsimp only
      by_cases z : j = e
      · subst z
        rw [if_pos rfl]
        cases hE : E j with
        | false => exact rp_cg (h1 j (by omega)) (fun q _ => by simp)
        | true => rw [if_pos rfl, pk_us]; exact rp_cg (rp_or (h1 j (by omega)) (h1 (j + 1) (by omega))) (fun q _ => by simp)
      · rw [if_neg z]
        have : (if E e then upd a_heads e (a_heads e ||| a_heads (e + 1)) else a_heads) j = a_heads j := by
          split
          · exact pk_un z
          · rfl
        rw [this]; exact h1 j (by omega)
    · unfold gst ub
      rw [if_neg (show ¬ t < 5 by omega), if_pos e5, show e + 2 - 2 = e by omega, show e + 2 - 1 = e + 1 by omega]
      dsimp only
      by_cases z : j = e
      · subst z
        rw [if_pos rfl, pk_us]
        cases hE : E (j + 1) with
        | false => exact rp_cg (h2 (j + 1) (by omega)) (fun q _ => by simp)
        | true => rw [if_pos rfl]; exact rp_cg (rp_or (h2 j (by omega)) (h2 (j + 1) (by omega))) (fun q _ => by simp [Bool.or_comm])
      · rw [if_neg z, pk_un z]; exact h2 j (by omega)
    · unfold gst ue
      rw [if_neg (show ¬ t < 5 by omega), if_pos e5, show e + 2 - 2 = e by omega, show e + 2 - 1 = e + 1 by omega]
      dsimp only
      by_cases z : j = e
      · subst z; rw [if_pos rfl, pk_us]
      · rw [if_neg z, pk_un z]; exact h3 j (by omega)
    · unfold gst
      rw [if_neg (show ¬ t < 5 by omega), if_pos e5, show e + 2 - 2 = e by omega, show e + 2 - 1 = e + 1 by omega]
      dsimp only
      refine ⟨fun q' hq' => ?_, fun p hp => ?_⟩
      · rw [hfo _ (hcn q hq), (h4 q hq).1 q' hq', (h2 e (by omega)).1 q hq, (h1 (e + 1) (by omega)).1 q' hq']
      · rw [hfo _ (hcn q hq), (h4 q hq).2 p hp, (h1 (e + 1) (by omega)).2 p hp]; simp
  · have e2 := hcc.2.1 (Or.inr e6)
    obtain ⟨e, rfl⟩ : ∃ e, d = e + 2 := ⟨d - 2, by omega⟩
    rw [e2, if_neg (by omega), if_neg (by omega), show e + 2 + 1 - 2 = e + 1 by omega] at J
    refine nm_r (pk_m1 (e + 1)) ?_
    rw [nI_pred]
    refine xun (by omega) (h3 e (by omega)) (h3 (e + 1) (by omega)) ?_
    dsimp only
    refine nm_r (nI_1 k) (J _ _ _ _ _ ⟨fun j hj => ?_, fun j hj => ?_, fun j hj => ?_, fun q hq => ?_⟩ rfl (fun _ _ => rfl))
    · unfold gst ub
      rw [if_neg (show ¬ t < 5 by omega), if_neg n5, if_pos e6, show e + 2 - 2 = e by omega, show e + 2 - 1 = e + 1 by omega]
      dsimp only
      by_cases z : j = e
      · subst z; rw [if_pos rfl, pk_us]; exact rp_or (h1 j (by omega)) (h1 (j + 1) (by omega))
      · rw [if_neg z, pk_un z]; exact h1 j (by omega)
    · unfold gst ub
      rw [if_neg (show ¬ t < 5 by omega), if_neg n5, if_pos e6, show e + 2 - 2 = e by omega, show e + 2 - 1 = e + 1 by omega]
      dsimp only
      by_cases z : j = e
      · subst z; rw [if_pos rfl, pk_us]; exact rp_or (h2 j (by omega)) (h2 (j + 1) (by omega))
      · rw [if_neg z, pk_un z]; exact h2 j (by omega)
    · unfold gst ue
      rw [if_neg (show ¬ t < 5 by omega), if_neg n5, if_pos e6, show e + 2 - 2 = e by omega, show e + 2 - 1 = e + 1 by omega]
      dsimp only
      by_cases z : j = e
      · subst z; rw [if_pos rfl, pk_us]
      · rw [if_neg z, pk_un z]; exact h3 j (by omega)
    · unfold gst
      rw [if_neg (show ¬ t < 5 by omega), if_neg n5, if_pos e6]
      exact h4 q hq
  · have e1 := hcc.2.2 (by omega)
    obtain ⟨e, rfl⟩ : ∃ e, d = e + 1 := ⟨d - 1, by omega⟩
    rw [e1, if_neg (by omega), if_neg (by omega), show e + 1 + 1 - 1 = e + 1 by omega] at J
    rw [nI_pred]
    refine xre (by omega) (by omega) ht (fun fo hfo hfo' => ?_)
    dsimp only
    refine nm_r (nI_1 k) (J _ _ _ _ fo ⟨fun j hj => ?_, fun j hj => ?_, fun j hj => ?_, fun q hq => ?_⟩ rfl hfo')
    · have : (gst t c (e + 1) (F, T, E, G)).1 = F := by
        unfold gst
        rw [if_neg (show ¬ t < 5 by omega), if_neg n5, if_neg n6]
        split
        · rfl
        · split <;> rfl
      rw [this]; exact h1 j hj
    · have : (gst t c (e + 1) (F, T, E, G)).2.1 = T := by
        unfold gst
        rw [if_neg (show ¬ t < 5 by omega), if_neg n5, if_neg n6]
        split
        · rfl
        · split <;> rfl
      rw [this]; exact h2 j hj
    · by_cases e8 : t = 8
      · have : (gst t c (e + 1) (F, T, E, G)).2.2.1 = E := by
          unfold gst
          rw [if_neg (show ¬ t < 5 by omega), if_neg n5, if_neg n6, if_neg (show ¬ t = 7 by omega), if_pos e8]
        rw [this, if_pos e8]; exact h3 j hj
      · have : (gst t c (e + 1) (F, T, E, G)).2.2.1 = ue E e true := by
          unfold gst
          rw [if_neg (show ¬ t < 5 by omega), if_neg n5, if_neg n6]
          by_cases e7 : t = 7
          · rw [if_pos e7]; rfl
          · rw [if_neg e7, if_neg e8]; rfl
        rw [this, if_neg e8]
        unfold ue
        by_cases z : j = e
        · subst z; rw [if_pos rfl, pk_us]; rfl
        · rw [if_neg z, pk_un z]; exact h3 j hj
    · have : (gst t c (e + 1) (F, T, E, G)).2.2.2 = fun p q => G p q || (decide (t < 9) && (T e p && F e q)) := by
        unfold gst
        rw [if_neg (show ¬ t < 5 by omega), if_neg n5, if_neg n6]
        by_cases e7 : t = 7
        · rw [if_pos e7, show decide (t < 9) = true from decide_eq_true (by omega)]; simp
        · rw [if_neg e7]
          by_cases e8 : t = 8
          · rw [if_pos e8, show decide (t < 9) = true from decide_eq_true (by omega)]; simp
          · rw [if_neg e8, show decide (t < 9) = false from decide_eq_false (by omega)]; simp
      rw [this]
      dsimp only
      refine ⟨fun q' hq' => ?_, fun p hp => ?_⟩
      · rw [hfo _ (hcn q hq), (h4 q hq).1 q' hq', (h2 e (by omega)).1 q hq, (h1 e (by omega)).1 q' hq']
      · rw [hfo _ (hcn q hq), (h4 q hq).2 p hp, (h1 e (by omega)).2 p hp]; simp
  · have c5 : t < 5 := by omega
    have e0 := hcc.1 c5
    obtain ⟨l1, l2⟩ := hlc c5
    have u16 := hus c5
    rw [e0, if_pos c5, if_pos c5, Nat.sub_zero] at J
    rw [nI_clamp (show us < 2 ^ 31 by omega), nI_clamp (show d < 2 ^ 31 by omega)]
    have i0 : vp_in (nI d) 8 := vp_in_nI (by omega) (by omega)
    have one : rpB lc cn (us + 1) ((1 : Int32) <<< (nI us &&& 31)) (fun q => q == c) := by
      refine ⟨fun q hq => ?_, fun p hp => ?_⟩
      · rw [zc_one (by omega)]
        by_cases z : q = c
        · subst z; simp [l2]
        · have : ¬ cn q = us := fun y => z (hinj q c hq l1 (by omega))
          simp [z, this]
      · rw [zc_one (by omega)]; exact decide_eq_false (by omega)
    refine ⟨vp_in_nI (by omega) (by omega), nm_e ⟨i0, nm_e ⟨i0, nm_e ⟨i0, nm_e (nm_r (nI_1 us) (nm_r (nI_1 d) (nm_r (nI_1 k) (J _ _ _ _ _ ⟨fun j hj => ?_, fun j hj => ?_, fun j hj => ?_, fun q hq => ?_⟩ rfl (fun _ _ => rfl)))))⟩⟩⟩⟩
    · unfold gst ub
      rw [if_pos c5]
      dsimp only
      by_cases z : j = d
      · subst z; rw [if_pos rfl, pk_us]; exact one
      · rw [if_neg z, pk_un z]; exact rp_us (h1 j (by omega)) (by omega)
    · unfold gst ub
      rw [if_pos c5]
      dsimp only
      by_cases z : j = d
      · subst z; rw [if_pos rfl, pk_us]; exact one
      · rw [if_neg z, pk_un z]; exact rp_us (h2 j (by omega)) (by omega)
    · unfold gst ue
      rw [if_pos c5]
      dsimp only
      by_cases z : j = d
      · subst z; rw [if_pos rfl, pk_us]; rfl
      · rw [if_neg z, pk_un z]; exact h3 j (by omega)
    · unfold gst
      rw [if_pos c5]
      exact rp_us (h4 q hq) (by omega)
end
end
section
/-! the component's sets -/
theorem lc_i {tm sz : Nat → Nat} {q : Nat} : lcB tm sz q = true ↔ q < 32 ∧ q % 8 < sz (q / 8) ∧ tm q < 5 := by
  unfold lcB; simp
theorem lc_16 {tm sz : Nat → Nat} (h : rwf tm sz) {q : Nat} (hq : lcB tm sz q = true) : lcn tm sz q < lcn tm sz 32 ∧ lcn tm sz 32 ≤ 16 := by
  have h1 := (lc_i.mp hq).1
  exact ⟨lcn_lt hq h1, lcn_4 h 4 (by omega)⟩
def xLaid (tm sz : Nat → Nat) (R : Nat) (pl fo re : Nat → Int32) : Prop :=
  (∀ q, lcB tm sz q = true → rpB (lcB tm sz) (lcn tm sz) (lcn tm sz (8 * R)) (fo (lcn tm sz q)) (gG tm sz R q)) ∧ rpB (lcB tm sz) (lcn tm sz) (lcn tm sz (8 * R)) (fo 16) (sta tm sz R) ∧
  (∀ r, r < R → rpB (lcB tm sz) (lcn tm sz) (lcn tm sz (8 * R)) (re r) (TR tm sz r)) ∧ (∀ q, q < 8 * R → lcB tm sz q = true → pl (lcn tm sz q) = nI (tm q))
section
variable {f_productionCount f_textLength f_anythingBuilt f_tokenCount f_parseValue f_parsePlace : Int32} {a_ruleTerms a_ruleLengths a_skips a_grammar a_ranks a_groupings a_text a_heads a_tails a_empties a_placeLetters a_followers a_ruleEnds : Nat → Int32} {a_sets : Nat → Int64} {a_steps a_classes a_finerClasses : Nat → Int32} {a_states : Nat → Int64} {a_moves a_begins a_lookaheads a_builtCounts a_builtSteps a_builtMatches a_builtSkips a_builtGrammar a_builtMoves a_builtActions a_tokenRules a_tokenBegins a_tokenEnds a_stackStates a_stackValues : Nat → Int32}
theorem xr_8 {post : Int32 → SX → Prop} {r z : Nat} {G0 : Nat → Nat → Bool} {fo0 : Nat → Int32} (hr : r < 4) (hru : ru_ok a_ruleTerms a_ruleLengths) (hw : rwf (nv a_ruleTerms) (nv a_ruleLengths)) (ez : a_ruleLengths r = nI z) (hz : z ≤ 8)
    (H : ∀ (he ta em pl fo : Nat → Int32), RXs (lcB (nv a_ruleTerms) (nv a_ruleLengths)) (lcn (nv a_ruleTerms) (nv a_ruleLengths)) (gl (nv a_ruleTerms) (8 * r) G0 z) (dp (nv a_ruleTerms) (8 * r) z) (lcn (nv a_ruleTerms) (nv a_ruleLengths) (8 * r + z)) he ta em fo →
      (∀ q, q < 8 * r + z → lcB (nv a_ruleTerms) (nv a_ruleLengths) q = true → pl (lcn (nv a_ruleTerms) (nv a_ruleLengths) q) = nI (nv a_ruleTerms q)) → (∀ p, 16 ≤ p → fo p = fo0 p) →
      post (nI (lcn (nv a_ruleTerms) (nv a_ruleLengths) (8 * r + z))) (f_productionCount, f_textLength, f_anythingBuilt, f_tokenCount, f_parseValue, f_parsePlace, a_ruleTerms, a_ruleLengths, a_skips, a_grammar, a_ranks, a_groupings, a_text, he, ta, em, pl, fo, a_ruleEnds, a_sets, a_steps, a_classes, a_finerClasses, a_states, a_moves, a_begins, a_lookaheads, a_builtCounts, a_builtSteps, a_builtMatches, a_builtSkips, a_builtGrammar, a_builtMoves, a_builtActions, a_tokenRules, a_tokenBegins, a_tokenEnds, a_stackStates, a_stackValues)) :
    ∀ d k (he ta em pl fo : Nat → Int32), k + d = z → RXs (lcB (nv a_ruleTerms) (nv a_ruleLengths)) (lcn (nv a_ruleTerms) (nv a_ruleLengths)) (gl (nv a_ruleTerms) (8 * r) G0 k) (dp (nv a_ruleTerms) (8 * r) k) (lcn (nv a_ruleTerms) (nv a_ruleLengths) (8 * r + k)) he ta em fo →
      (∀ q, q < 8 * r + k → lcB (nv a_ruleTerms) (nv a_ruleLengths) q = true → pl (lcn (nv a_ruleTerms) (nv a_ruleLengths) q) = nI (nv a_ruleTerms q)) → (∀ p, 16 ≤ p → fo p = fo0 p) →
      wX_layOutRule_8 post (nI r) (d + 1) (nI (lcn (nv a_ruleTerms) (nv a_ruleLengths) (8 * r + k))) (nI (dp (nv a_ruleTerms) (8 * r) k)) (nI k) f_productionCount f_textLength f_anythingBuilt f_tokenCount f_parseValue f_parsePlace a_ruleTerms a_ruleLengths a_skips a_grammar a_ranks a_groupings a_text he ta em pl fo a_ruleEnds a_sets a_steps a_classes a_finerClasses a_states a_moves a_begins a_lookaheads a_builtCounts a_builtSteps a_builtMatches a_builtSkips a_builtGrammar a_builtMoves a_builtActions a_tokenRules a_tokenBegins a_tokenEnds a_stackStates a_stackValues := by
  have c1 : (nI r).toNatClampNeg = r := nI_clamp (by omega)
  have ir : vp_in (nI r) 4 := vp_in_nI hr (by omega)
  have ezn : nv a_ruleLengths r = z := by unfold nv; rw [ez]; exact nI_clamp (by omega)
  have hwr := hw.2.2 r hr
  rw [ezn] at hwr
  intro d
  induction d with
  | zero =>
    intro k he ta em pl fo hk h hp hf
    have : k = z := by omega
    subst this
    have h' := H he ta em pl fo h hp hf
    refine pk_le 8 k (fun _ => h') (fun _ => ⟨ir, ?_⟩)
    rw [c1, ez]
    exact pk_le k k (fun _ => h') (fun z => absurd z (by omega))
  | succ d ih =>
    intro k he ta em pl fo hk h hp hf
    obtain ⟨t, ht, et⟩ := hru.1 (8 * r + k)
    have etn : nv a_ruleTerms (8 * r + k) = t := by unfold nv; rw [et]; exact nI_clamp (by omega)
    have htk := hwr.1 k (by omega)
    rw [etn] at htk
    have hdp : dp (nv a_ruleTerms) (8 * r) (k + 1) = dp (nv a_ruleTerms) (8 * r) k + 1 - tk t := by
      show _ + 1 - tk (nv a_ruleTerms (8 * r + k)) = _
      rw [etn]
    have hgl : gl (nv a_ruleTerms) (8 * r) G0 (k + 1) = gst t (8 * r + k) (dp (nv a_ruleTerms) (8 * r) k) (gl (nv a_ruleTerms) (8 * r) G0 k) := by
      show gst (nv a_ruleTerms (8 * r + k)) _ _ _ = _
      rw [etn]
    have hlc : lcB (nv a_ruleTerms) (nv a_ruleLengths) (8 * r + k) = decide (t < 5) := by
      unfold lcB
      rw [show (8 * r + k) / 8 = r by omega, show (8 * r + k) % 8 = k by omega, ezn, etn, decide_eq_true (show 8 * r + k < 32 by omega), decide_eq_true (show k < z by omega)]
      rfl
    have hus : lcn (nv a_ruleTerms) (nv a_ruleLengths) (8 * r + (k + 1)) = if t < 5 then lcn (nv a_ruleTerms) (nv a_ruleLengths) (8 * r + k) + 1 else lcn (nv a_ruleTerms) (nv a_ruleLengths) (8 * r + k) := by
      show _ + (if lcB (nv a_ruleTerms) (nv a_ruleLengths) (8 * r + k) = true then 1 else 0) = _
      rw [hlc]
      by_cases c : t < 5 <;> simp [c]
    have hd4 := dp_4 hwr hz (k := k) (by omega)
    have u1 := lcn_16 hw hr (k := k + 1) (by omega)
    have u0 := lcn_16 hw hr (k := k) (by omega)
    refine pk_le 8 k (fun z => absurd z (by omega)) (fun _ => ⟨ir, ?_⟩)
    rw [c1, ez]
    refine pk_le z k (fun z => absurd z (by omega)) (fun _ => ?_)
    rw [show nI r * 8 + nI k = nI (8 * r + k) from by rw [show (8 : Int32) = nI 8 from rfl, pk_mul, nI_add]; congr 1; omega, nI_clamp (show 8 * r + k < 2 ^ 31 by omega), et]
    refine ⟨vp_in_nI (by omega) (by omega), nm_e ?_⟩
    refine xg_ (a_heads := he) (a_tails := ta) (a_empties := em) (a_placeLetters := pl) (a_followers := fo) (c := 8 * r + k) ht hd4 htk (fun c => ?_) (fun q hq => ?_) (by omega) (by omega) (fun c => ⟨by rw [hlc]; exact decide_eq_true c, rfl⟩) (fun q q' a b => lcn_inj a b) h (fun he' ta' em' pl' fo' h' hp' hf' => ?_)
    · rw [hus, if_pos c] at u1; omega
    · have := lc_16 hw hq; omega
    · rw [← hgl, ← hdp, ← hus] at h'
      rw [← hdp, ← hus]
      refine ih (k + 1) he' ta' em' pl' fo' (by omega) h' (fun q hq hl => ?_) (fun p hp => (hf' p hp).trans (hf p hp))
      rw [hp']
      by_cases c : t < 5
      · rw [if_pos c]
        by_cases e : q = 8 * r + k
        · subst e; rw [pk_us, etn]
        · have : lcn (nv a_ruleTerms) (nv a_ruleLengths) q ≠ lcn (nv a_ruleTerms) (nv a_ruleLengths) (8 * r + k) := fun z => e (lcn_inj hl (by rw [hlc]; exact decide_eq_true c) z)
          rw [pk_un this]; exact hp q (by omega) hl
      · rw [if_neg c]
        refine hp q ?_ hl
        by_cases e : q = 8 * r + k
        · subst e; rw [hlc, decide_eq_false c] at hl; exact absurd hl (by decide)
        · omega
theorem xl_25 {post : SX → Prop} (hru : ru_ok a_ruleTerms a_ruleLengths) (hw : rwf (nv a_ruleTerms) (nv a_ruleLengths))
    (H : ∀ (he ta em pl fo re : Nat → Int32), xLaid (nv a_ruleTerms) (nv a_ruleLengths) 4 pl fo re → post (f_productionCount, f_textLength, f_anythingBuilt, f_tokenCount, f_parseValue, f_parsePlace, a_ruleTerms, a_ruleLengths, a_skips, a_grammar, a_ranks, a_groupings, a_text, he, ta, em, pl, fo, re, a_sets, a_steps, a_classes, a_finerClasses, a_states, a_moves, a_begins, a_lookaheads, a_builtCounts, a_builtSteps, a_builtMatches, a_builtSkips, a_builtGrammar, a_builtMoves, a_builtActions, a_tokenRules, a_tokenBegins, a_tokenEnds, a_stackStates, a_stackValues)) :
    ∀ d r (he ta em pl fo re : Nat → Int32), r + d = 4 → xLaid (nv a_ruleTerms) (nv a_ruleLengths) r pl fo re → wX_layOutRules_25 post (d + 1) (nI (lcn (nv a_ruleTerms) (nv a_ruleLengths) (8 * r))) (nI r) f_productionCount f_textLength f_anythingBuilt f_tokenCount f_parseValue f_parsePlace a_ruleTerms a_ruleLengths a_skips a_grammar a_ranks a_groupings a_text he ta em pl fo re a_sets a_steps a_classes a_finerClasses a_states a_moves a_begins a_lookaheads a_builtCounts a_builtSteps a_builtMatches a_builtSkips a_builtGrammar a_builtMoves a_builtActions a_tokenRules a_tokenBegins a_tokenEnds a_stackStates a_stackValues := by
  intro d
  induction d with
  | zero =>
    intro r he ta em pl fo re hr h
    have : r = 4 := by omega
    subst this
    exact pk_le 4 4 (fun _ => H he ta em pl fo re h) (fun z => absurd z (by omega))
  | succ d ih =>
    intro r he ta em pl fo re hr h
    obtain ⟨z, hz, ez⟩ := hru.2 r
    have ezn : nv a_ruleLengths r = z := by unfold nv; rw [ez]; exact nI_clamp (by omega)
    have c1 : (nI r).toNatClampNeg = r := nI_clamp (by omega)
    have ir : vp_in (nI r) 4 := vp_in_nI (by omega) (by omega)
    have hwr := hw.2.2 r (by omega)
    rw [ezn] at hwr
    have e8 : lcn (nv a_ruleTerms) (nv a_ruleLengths) (8 * (r + 1)) = lcn (nv a_ruleTerms) (nv a_ruleLengths) (8 * r + z) := by
      have := lcn_e (tm := nv a_ruleTerms) (sz := nv a_ruleLengths) (r := r) (by omega) (8 - z) (by omega)
      rw [ezn, show 8 * r + (z + (8 - z)) = 8 * (r + 1) by omega] at this
      exact this
    have hm := lcn_m (tm := nv a_ruleTerms) (sz := nv a_ruleLengths) (8 * r) z
    obtain ⟨h1, h2, h3, h4⟩ := h
    refine pk_le 4 r (fun z => absurd z (by omega)) (fun _ => ⟨ir, ?_⟩)
    rw [c1, ez]
    refine nm_e ⟨ir, pk_le z 0 (fun z0 => nm_r (nI_1 r) ?_) (fun z0 => ?_)⟩
    · have : z = 0 := by omega
      subst this
      have e9 : lcn (nv a_ruleTerms) (nv a_ruleLengths) (8 * (r + 1)) = lcn (nv a_ruleTerms) (nv a_ruleLengths) (8 * r) := e8
      rw [← e9]
      refine ih (r + 1) he ta em pl fo _ (by omega) ⟨fun q hq => ?_, ?_, fun p hp => ?_, fun q hq hl => ?_⟩
      · rw [e9]
        have : gG (nv a_ruleTerms) (nv a_ruleLengths) (r + 1) = gG (nv a_ruleTerms) (nv a_ruleLengths) r := by
          show (gl _ _ _ (nv a_ruleLengths r)).2.2.2 = _
          rw [ezn]; rfl
        rw [this]; exact h1 q hq
      · rw [e9]
        refine rp_cg h2 (fun q _ => ?_)
        show _ = (sta (nv a_ruleTerms) (nv a_ruleLengths) r q || FR (nv a_ruleTerms) (nv a_ruleLengths) r q)
        unfold FR; rw [ezn]; simp
      · rw [e9]
        by_cases e : p = r
        · subst e; rw [pk_us]
          refine ⟨fun q _ => ?_, fun i _ => b_0 i⟩
          rw [b_0]; unfold TR; rw [ezn]; simp
        · rw [pk_un e]; exact h3 p (by omega)
      · refine h4 q ?_ hl
        have := (lc_i.mp hl).2.1
        by_cases e : q / 8 = r
        · rw [e, ezn] at this; omega
        · omega
    · have d1 : dp (nv a_ruleTerms) (8 * r) z = 1 := hwr.2.resolve_left (by omega)
      refine ⟨z + 1, xr_8 (a_ruleEnds := upd re r 0) (fo0 := fo) (by omega) hru hw ez hz (fun he' ta' em' pl' fo' h' hp' hf' => ?_) z 0 he ta em pl fo (by omega) ⟨fun e he => absurd he (Nat.not_lt_zero _), fun e he => absurd he (Nat.not_lt_zero _), fun e he => absurd he (Nat.not_lt_zero _), h1⟩ h4 (fun _ _ => rfl)⟩
      dsimp only
      refine nm_e ⟨ir, nm_e (nm_r (nI_1 r) ?_)⟩
      rw [← e8] at h' ⊢
      rw [d1] at h'
      refine ih (r + 1) he' ta' em' pl' _ _ (by omega) ⟨fun q hq => ?_, ?_, fun p hp => ?_, fun q hq hl => ?_⟩
      · have h16 := lc_16 hw hq
        rw [pk_un (by omega)]
        have := h'.2.2.2 q hq
        have e3 : gG (nv a_ruleTerms) (nv a_ruleLengths) (r + 1) = (gl (nv a_ruleTerms) (8 * r) (gG (nv a_ruleTerms) (nv a_ruleLengths) r) z).2.2.2 := by
          show (gl _ _ _ (nv a_ruleLengths r)).2.2.2 = _
          rw [ezn]
        rw [e3]; exact this
      · rw [pk_us, hf' 16 (by omega)]
        refine rp_cg (rp_or (rp_us h2 (by omega)) (h'.1 0 (by omega))) (fun q _ => ?_)
        show _ = (sta (nv a_ruleTerms) (nv a_ruleLengths) r q || FR (nv a_ruleTerms) (nv a_ruleLengths) r q)
        unfold FR; rw [ezn]; simp [z0]
      · by_cases e : p = r
        · subst e; rw [pk_us]
          refine rp_cg (h'.2.1 0 (by omega)) (fun q _ => ?_)
          unfold TR; rw [ezn]; simp [z0]
        · rw [pk_un e, pk_un e]; exact rp_us (h3 p (by omega)) (by omega)
      · refine hp' q ?_ hl
        have := (lc_i.mp hl).2.1
        by_cases e : q / 8 = r
        · rw [e, ezn] at this; omega
        · omega
theorem xl_2 {post : SX → Prop} (hru : ru_ok a_ruleTerms a_ruleLengths) (hw : rwf (nv a_ruleTerms) (nv a_ruleLengths))
    (H : ∀ (he ta em pl fo re : Nat → Int32), xLaid (nv a_ruleTerms) (nv a_ruleLengths) 4 pl fo re → post (f_productionCount, f_textLength, f_anythingBuilt, f_tokenCount, f_parseValue, f_parsePlace, a_ruleTerms, a_ruleLengths, a_skips, a_grammar, a_ranks, a_groupings, a_text, he, ta, em, pl, fo, re, a_sets, a_steps, a_classes, a_finerClasses, a_states, a_moves, a_begins, a_lookaheads, a_builtCounts, a_builtSteps, a_builtMatches, a_builtSkips, a_builtGrammar, a_builtMoves, a_builtActions, a_tokenRules, a_tokenBegins, a_tokenEnds, a_stackStates, a_stackValues)) :
    ∀ d p (fo : Nat → Int32), p + d = 17 → (∀ k, k < p → fo k = 0) → wX_layOutRules_2 post f_productionCount f_textLength f_anythingBuilt f_tokenCount f_parseValue f_parsePlace (d + 1) (nI p) a_ruleTerms a_ruleLengths a_skips a_grammar a_ranks a_groupings a_text a_heads a_tails a_empties a_placeLetters fo a_ruleEnds a_sets a_steps a_classes a_finerClasses a_states a_moves a_begins a_lookaheads a_builtCounts a_builtSteps a_builtMatches a_builtSkips a_builtGrammar a_builtMoves a_builtActions a_tokenRules a_tokenBegins a_tokenEnds a_stackStates a_stackValues := by
  intro d
  induction d with
  | zero =>
    intro p fo hp h
    have : p = 17 := by omega
    subst this
    have z0 : ∀ {F : Nat → Bool} {k : Nat}, k < 17 → (∀ q, F q = false) → rpB (lcB (nv a_ruleTerms) (nv a_ruleLengths)) (lcn (nv a_ruleTerms) (nv a_ruleLengths)) 0 (fo k) F := fun hk hF => ⟨fun q _ => by rw [h _ hk, b_0, hF q], fun i _ => by rw [h _ hk, b_0]⟩
    exact pk_le 17 17 (fun _ => ⟨5, xl_25 hru hw H 4 0 a_heads a_tails a_empties a_placeLetters fo a_ruleEnds (by omega) ⟨fun q hq => z0 (by have := lc_16 hw hq; omega) (fun _ => rfl), z0 (by omega) (fun _ => rfl), fun r hr => absurd hr (Nat.not_lt_zero _), fun q hq => absurd hq (Nat.not_lt_zero _)⟩⟩) (fun z => absurd z (by omega))
  | succ d ih =>
    intro p fo hp h
    refine pk_le 17 p (fun z => absurd z (by omega)) (fun _ => ⟨vp_in_nI (by omega) (by omega), ?_⟩)
    rw [nI_clamp (show p < 2 ^ 31 by omega)]
    refine nm_e (nm_r (nI_1 p) (ih (p + 1) _ (by omega) (fun k hk => ?_)))
    by_cases e : k = p
    · subst e; exact pk_us
    · rw [pk_un e]; exact h k (by omega)
theorem x_lay {post : SX → Prop} (hru : ru_ok a_ruleTerms a_ruleLengths) (hw : rwf (nv a_ruleTerms) (nv a_ruleLengths))
    (H : ∀ (he ta em pl fo re : Nat → Int32), xLaid (nv a_ruleTerms) (nv a_ruleLengths) 4 pl fo re → post (f_productionCount, f_textLength, f_anythingBuilt, f_tokenCount, f_parseValue, f_parsePlace, a_ruleTerms, a_ruleLengths, a_skips, a_grammar, a_ranks, a_groupings, a_text, he, ta, em, pl, fo, re, a_sets, a_steps, a_classes, a_finerClasses, a_states, a_moves, a_begins, a_lookaheads, a_builtCounts, a_builtSteps, a_builtMatches, a_builtSkips, a_builtGrammar, a_builtMoves, a_builtActions, a_tokenRules, a_tokenBegins, a_tokenEnds, a_stackStates, a_stackValues)) : wpX_layOutRules post (f_productionCount, f_textLength, f_anythingBuilt, f_tokenCount, f_parseValue, f_parsePlace, a_ruleTerms, a_ruleLengths, a_skips, a_grammar, a_ranks, a_groupings, a_text, a_heads, a_tails, a_empties, a_placeLetters, a_followers, a_ruleEnds, a_sets, a_steps, a_classes, a_finerClasses, a_states, a_moves, a_begins, a_lookaheads, a_builtCounts, a_builtSteps, a_builtMatches, a_builtSkips, a_builtGrammar, a_builtMoves, a_builtActions, a_tokenRules, a_tokenBegins, a_tokenEnds, a_stackStates, a_stackValues) :=
  ⟨18, xl_2 hru hw H 17 0 a_followers (by omega) (fun k hk => absurd hk (Nat.not_lt_zero _))⟩
end
end
section
/-! the component's listing of sets against the reference's -/
def rcF (fo : Nat → Int32) (x : Int64) : Nat → Int32
  | 0 => 0
  | p + 1 => if bl x p then rcF fo x p ||| fo p else rcF fo x p
def rbF (pl : Nat → Int32) (l : Nat) : Nat → Int32
  | 0 => 0
  | p + 1 => if pl p = nI l ∨ pl p = 4 then rbF pl l p ||| ((1 : Int32) <<< (nI p &&& 31)) else rbF pl l p
theorem rc_b {fo : Nat → Int32} {x : Int64} {i : Nat} : ∀ n, bt (rcF fo x n) i = true ↔ ∃ p, p < n ∧ bl x p = true ∧ bt (fo p) i = true
  | 0 => ⟨fun h => by unfold rcF at h; rw [b_0] at h; exact absurd h (by decide), fun ⟨p, h, _⟩ => absurd h (Nat.not_lt_zero _)⟩
  | n + 1 => by
    unfold rcF
    by_cases c : bl x n = true
    · rw [if_pos c, b_or, Bool.or_eq_true, rc_b n]
      constructor
      · rintro (⟨p, a, b⟩ | a)
        · exact ⟨p, by omega, b⟩
        · exact ⟨n, by omega, c, a⟩
      · rintro ⟨p, a, b, d⟩
        by_cases e : p = n
        · subst e; exact Or.inr d
        · exact Or.inl ⟨p, by omega, b, d⟩
    · rw [if_neg c, rc_b n]
      constructor
      · rintro ⟨p, a, b⟩; exact ⟨p, by omega, b⟩
      · rintro ⟨p, a, b, d⟩
        by_cases e : p = n
        · subst e; exact absurd b c
        · exact ⟨p, by omega, b, d⟩
theorem rb_b {pl : Nat → Int32} {l i : Nat} : ∀ n, n ≤ 32 → (bt (rbF pl l n) i = true ↔ i < n ∧ (pl i = nI l ∨ pl i = 4))
  | 0, _ => ⟨fun h => by unfold rbF at h; rw [b_0] at h; exact absurd h (by decide), fun ⟨h, _⟩ => absurd h (Nat.not_lt_zero _)⟩
  | n + 1, hn => by
    unfold rbF
    by_cases c : pl n = nI l ∨ pl n = 4
    · rw [if_pos c, b_or, Bool.or_eq_true, rb_b n (by omega), zc_one (by omega), decide_eq_true_eq]
      constructor
      · rintro (⟨a, b⟩ | a)
        · exact ⟨by omega, b⟩
        · subst a; exact ⟨by omega, c⟩
      · rintro ⟨a, b⟩
        by_cases e : i = n
        · exact Or.inr e
        · exact Or.inl ⟨by omega, b⟩
    · rw [if_neg c, rb_b n (by omega)]
      constructor
      · rintro ⟨a, b⟩; exact ⟨by omega, b⟩
      · rintro ⟨a, b⟩
        by_cases e : i = n
        · subst e; exact absurd b c
        · exact ⟨by omega, b⟩
def trX (fo pl : Nat → Int32) (x : Int64) (l : Nat) : Int64 := (rcF fo x 17 &&& rbF pl l 16).toInt64
theorem trX_b {fo pl : Nat → Int32} {x : Int64} {l i : Nat} : bl (trX fo pl x l) i = true ↔ i < 16 ∧ (pl i = nI l ∨ pl i = 4) ∧ ∃ p, p < 17 ∧ bl x p = true ∧ bt (fo p) i = true := by
  unfold trX
  have h31 : bt (rcF fo x 17 &&& rbF pl l 16) 31 = false := by
    rw [b_and]
    have : bt (rbF pl l 16) 31 = false := by
      cases h : bt (rbF pl l 16) 31 with
      | false => rfl
      | true => have := ((rb_b 16 (by omega)).mp h).1; omega
    rw [this, Bool.and_false]
  by_cases c : i < 32
  · rw [zc_long _ c, b_and, Bool.and_eq_true, rc_b, rb_b 16 (by omega)]
    exact ⟨fun ⟨a, b, d⟩ => ⟨b, d, a⟩, fun ⟨b, d, a⟩ => ⟨a, b, d⟩⟩
  · rw [zc_longH _ (by omega) h31]
    exact ⟨fun h => absurd h (by decide), fun h => by omega⟩
/-- a set of places, as the component and as the reference have it -/
def rpS (tm sz : Nat → Nat) (v w : Int64) : Prop := (∀ q, lcB tm sz q = true → bl v (lcn tm sz q) = bl w q) ∧ (∀ p, lcn tm sz 32 ≤ p → bl v p = false) ∧ ∀ q, lcB tm sz q = false → bl w q = false
theorem rpS_0 (tm sz : Nat → Nat) : rpS tm sz 0 0 := ⟨fun q _ => by rw [zb_0, zb_0], fun p _ => zb_0 p, fun q _ => zb_0 q⟩
theorem rpS_i {tm sz : Nat → Nat} {v w v' w' : Int64} (h : rpS tm sz v w) (h' : rpS tm sz v' w') : v = v' ↔ w = w' := by
  constructor
  · intro e
    apply zb_ext
    intro q _
    by_cases c : lcB tm sz q = true
    · rw [← h.1 q c, ← h'.1 q c, e]
    · rw [h.2.2 q (by simpa using c), h'.2.2 q (by simpa using c)]
  · intro e
    apply zb_ext
    intro p _
    by_cases c : p < lcn tm sz 32
    · obtain ⟨q, _, hq, rfl⟩ := lcn_on 32 p c
      rw [h.1 q hq, h'.1 q hq, e]
    · rw [h.2.1 p (by omega), h'.2.1 p (by omega)]
theorem gG_sup {tm sz : Nat → Nat} (h8 : ∀ r, sz r ≤ 8) : ∀ R, R ≤ 4 → ∀ p q, gG tm sz R p q = true → lcB tm sz p = true ∧ lcB tm sz q = true
  | 0, _, p, q, h => absurd h (show ¬ (false = true) by decide)
  | R + 1, hR, p, q, h => by
    have := h8 R
    rcases (gl_sup (tm := tm) (b := 8 * R) (G0 := gG tm sz R) (sz R)).2.2 p q h with z | ⟨⟨a, b, c⟩, d, e, f⟩
    · exact gG_sup h8 R (by omega) p q z
    · refine ⟨lc_i.mpr ⟨by omega, ?_, c⟩, lc_i.mpr ⟨by omega, ?_, f⟩⟩
      · rw [show p / 8 = R by omega]; omega
      · rw [show q / 8 = R by omega]; omega
theorem FR_sup {tm sz : Nat → Nat} (h8 : ∀ r, sz r ≤ 8) {r q : Nat} (hr : r < 4) (h : FR tm sz r q = true) : lcB tm sz q = true := by
  have := h8 r
  unfold FR at h
  rw [Bool.and_eq_true] at h
  obtain ⟨a, b, c⟩ := (gl_sup (tm := tm) (b := 8 * r) (G0 := gG tm sz r) (sz r)).1 0 q h.2
  refine lc_i.mpr ⟨by omega, ?_, c⟩
  rw [show q / 8 = r by omega]; omega
theorem TR_sup {tm sz : Nat → Nat} (h8 : ∀ r, sz r ≤ 8) {r q : Nat} (hr : r < 4) (h : TR tm sz r q = true) : lcB tm sz q = true := by
  have := h8 r
  unfold TR at h
  rw [Bool.and_eq_true] at h
  obtain ⟨a, b, c⟩ := (gl_sup (tm := tm) (b := 8 * r) (G0 := gG tm sz r) (sz r)).2.1 0 q h.2
  refine lc_i.mpr ⟨by omega, ?_, c⟩
  rw [show q / 8 = r by omega]; omega
theorem sta_sup {tm sz : Nat → Nat} (h8 : ∀ r, sz r ≤ 8) : ∀ R, R ≤ 4 → ∀ q, sta tm sz R q = true → lcB tm sz q = true
  | 0, _, q, h => absurd h (show ¬ (false = true) by decide)
  | R + 1, hR, q, h => by
    have h' : (sta tm sz R q || FR tm sz R q) = true := h
    rw [Bool.or_eq_true] at h'
    exact h'.elim (sta_sup h8 R (by omega) q) (FR_sup h8 (by omega))
/-- a step leads to the same set on both sides -/
theorem tr_rp {tm sz : Nat → Nat} {pl foX re : Nat → Int32} {start : Int64} {ends foY : Nat → Int64} (hw : rwf tm sz) (hx : xLaid tm sz 4 pl foX re) (hy : yLaid tm sz 4 start ends foY) {s l : Nat} (hl : l < 4) {x y : Int64} (h0 : s = 0 → x = 65536) (h1 : s ≠ 0 → rpS tm sz x y) :
    rpS tm sz (trX foX pl x l) (trY foY tm start s y l) := by
  obtain ⟨x1, x2, x3, x4⟩ := hx
  obtain ⟨y1, y2, y3⟩ := hy
  have u16 : lcn tm sz 32 ≤ 16 := lcn_4 hw 4 (by omega)
  have hb16 : ∀ p, bl 65536 p = true ↔ p = 16 := by
    intro p
    by_cases c : p < 64
    · have : ∀ p, p < 64 → (bl 65536 p = true ↔ p = 16) := by decide +kernel
      exact this p c
    · rw [zb_big (by omega)]; exact ⟨fun h => absurd h (by decide), fun h => by omega⟩
  -- what is reached, on both sides
  have reach : ∀ q, lcB tm sz q = true → ((∃ p, p < 17 ∧ bl x p = true ∧ bt (foX p) (lcn tm sz q) = true) ↔ bl (if s = 0 then start else afF foY y 32) q = true) := by
    intro q hq
    by_cases c : s = 0
    · rw [if_pos c, h0 c, y1 q]
      constructor
      · rintro ⟨p, a, b, d⟩
        rw [hb16] at b; subst b
        rw [x2.1 q hq] at d; exact d
      · intro d
        exact ⟨16, by omega, (hb16 16).mpr rfl, by rw [x2.1 q hq]; exact d⟩
    · rw [if_neg c, af_b]
      obtain ⟨r1, r2, r3⟩ := h1 c
      constructor
      · rintro ⟨p, a, b, d⟩
        have hp : p < lcn tm sz 32 := by
          rcases Nat.lt_or_ge p (lcn tm sz 32) with z | z
          · exact z
          · rw [r2 p z] at b; exact absurd b (by decide)
        obtain ⟨q0, hq0, hl0, rfl⟩ := lcn_on 32 p hp
        refine ⟨q0, hq0, by rw [← r1 q0 hl0]; exact b, ?_⟩
        rw [y3 q0 hq0 q, ← (x1 q0 hl0).1 q hq]; exact d
      · rintro ⟨q0, a, b, d⟩
        have hl0 : lcB tm sz q0 = true := by
          cases h : lcB tm sz q0 with
          | true => rfl
          | false => rw [r3 q0 h] at b; exact absurd b (by decide)
        have := lc_16 hw hl0
        refine ⟨lcn tm sz q0, by omega, by rw [r1 q0 hl0]; exact b, ?_⟩
        rw [(x1 q0 hl0).1 q hq, ← y3 q0 a q]; exact d
  have hrd : ∀ q, lcB tm sz q = true → ((pl (lcn tm sz q) = nI l ∨ pl (lcn tm sz q) = 4) ↔ (tm q = 4 ∨ tm q = l)) := by
    intro q hq
    have h10 := hw.1 q
    rw [x4 q (lc_i.mp hq).1 hq, nI_eq (by omega) (by omega), show (4 : Int32) = nI 4 from rfl, nI_eq (by omega) (by omega)]
    exact or_comm
  refine ⟨fun q hq => ?_, fun p hp => ?_, fun q hq => ?_⟩
  · have h16 := lc_16 hw hq
    rw [Bool.eq_iff_iff, trX_b]
    unfold trY
    rw [rd_b 32 (by omega), ← reach q hq, hrd q hq]
    have := (lc_i.mp hq).1
    exact ⟨fun ⟨a, b, c⟩ => ⟨this, c, b⟩, fun ⟨a, b, c⟩ => ⟨by omega, c, b⟩⟩
  · cases h : bl (trX foX pl x l) p with
    | false => rfl
    | true =>
      obtain ⟨a, b, p', c, d, e⟩ := trX_b.mp h
      exfalso
      by_cases z : p' = 16
      · subst z; rw [x2.2 p hp] at e; exact absurd e (by decide)
      · by_cases y0 : s = 0
        · rw [h0 y0, hb16] at d; exact z d
        · obtain ⟨r1, r2, r3⟩ := h1 y0
          have hp' : p' < lcn tm sz 32 := by
            rcases Nat.lt_or_ge p' (lcn tm sz 32) with z | z
            · exact z
            · rw [r2 p' z] at d; exact absurd d (by decide)
          obtain ⟨q0, hq0, hl0, rfl⟩ := lcn_on 32 p' hp'
          rw [(x1 q0 hl0).2 p hp] at e; exact absurd e (by decide)
  · cases h : bl (trY foY tm start s y l) q with
    | false => rfl
    | true =>
      unfold trY at h
      obtain ⟨a, b, c⟩ := (rd_b 32 (by omega)).mp h
      exfalso
      have : lcB tm sz q = true := by
        by_cases z : s = 0
        · rw [if_pos z, y1 q] at b; exact sta_sup hw.2.1 4 (by omega) q b
        · rw [if_neg z, af_b] at b
          obtain ⟨p, b1, b2, b3⟩ := b
          rw [y3 p b1 q] at b3
          exact (gG_sup hw.2.1 4 (by omega) p q b3).2
      rw [this] at hq; exact absurd hq (by decide)
section
variable {f_productionCount f_textLength f_anythingBuilt f_tokenCount f_parseValue f_parsePlace : Int32} {a_ruleTerms a_ruleLengths a_skips a_grammar a_ranks a_groupings a_text a_heads a_tails a_empties a_placeLetters a_followers a_ruleEnds : Nat → Int32} {a_sets : Nat → Int64} {a_steps a_classes a_finerClasses : Nat → Int32} {a_states : Nat → Int64} {a_moves a_begins a_lookaheads a_builtCounts a_builtSteps a_builtMatches a_builtSkips a_builtGrammar a_builtMoves a_builtActions a_tokenRules a_tokenBegins a_tokenEnds a_stackStates a_stackValues : Nat → Int32}
theorem xb_48 {post : Int64 → Prop} {l : Nat} {x4 : Int32} (H : post ((x4 &&& rbF a_placeLetters l 16).toInt64)) : ∀ d p, p + d = 16 → wX_setBehind_48 post (nI l) x4 f_productionCount f_textLength f_anythingBuilt f_tokenCount f_parseValue f_parsePlace a_ruleTerms a_ruleLengths a_skips a_grammar a_ranks a_groupings a_text a_heads a_tails a_empties a_placeLetters a_followers a_ruleEnds a_sets a_steps a_classes a_finerClasses a_states a_moves a_begins a_lookaheads a_builtCounts a_builtSteps a_builtMatches a_builtSkips a_builtGrammar a_builtMoves a_builtActions a_tokenRules a_tokenBegins a_tokenEnds a_stackStates a_stackValues (d + 1) (rbF a_placeLetters l p) (nI p) := by
  intro d
  induction d with
  | zero =>
    intro p hp
    have : p = 16 := by omega
    subst this
    exact pk_le 16 16 (fun _ => H) (fun z => absurd z (by omega))
  | succ d ih =>
    intro p hp
    have ih' := ih (p + 1) (by omega)
    unfold rbF at ih'
    have ip : vp_in (nI p) 16 := vp_in_nI (by omega) (by omega)
    refine pk_le 16 p (fun z => absurd z (by omega)) (fun _ => ⟨ip, ?_⟩)
    rw [nI_clamp (show p < 2 ^ 31 by omega)]
    refine br_c (fun c => ?_) (fun c => ⟨ip, br_c (fun c2 => ?_) (fun c2 => nm_r (nI_1 p) ?_)⟩)
    · rw [if_pos (Or.inl c)] at ih'
      exact nm_e (nm_r (nI_1 p) ih')
    · rw [if_pos (Or.inr c2)] at ih'
      exact nm_e (nm_r (nI_1 p) ih')
    · rw [if_neg (fun z => z.elim c c2)] at ih'
      exact ih'
theorem xb_6 {post : Int64 → Prop} {l : Nat} {x : Int64} (H : post (trX a_followers a_placeLetters x l)) : ∀ d p, p + d = 17 → wX_setBehind_6 post x (nI l) f_productionCount f_textLength f_anythingBuilt f_tokenCount f_parseValue f_parsePlace a_ruleTerms a_ruleLengths a_skips a_grammar a_ranks a_groupings a_text a_heads a_tails a_empties a_placeLetters a_followers a_ruleEnds a_sets a_steps a_classes a_finerClasses a_states a_moves a_begins a_lookaheads a_builtCounts a_builtSteps a_builtMatches a_builtSkips a_builtGrammar a_builtMoves a_builtActions a_tokenRules a_tokenBegins a_tokenEnds a_stackStates a_stackValues (d + 1) (rcF a_followers x p) (nI p) := by
  intro d
  induction d with
  | zero =>
    intro p hp
    have : p = 17 := by omega
    subst this
    exact pk_le 17 17 (fun _ => ⟨17, xb_48 H 16 0 (by omega)⟩) (fun z => absurd z (by omega))
  | succ d ih =>
    intro p hp
    have ih' := ih (p + 1) (by omega)
    unfold rcF at ih'
    refine pk_le 17 p (fun z => absurd z (by omega)) (fun _ => zb_b0 p (fun hb => nm_r (nI_1 p) ?_) (fun hb => ⟨vp_in_nI (by omega) (by omega), ?_⟩))
    · rw [if_neg (by rw [hb]; decide)] at ih'; exact ih'
    · rw [nI_clamp (show p < 2 ^ 31 by omega)]
      rw [if_pos hb] at ih'
      exact nm_e (nm_r (nI_1 p) ih')
theorem xb_ {post : Int64 → Prop} {l : Nat} {x : Int64} (H : post (trX a_followers a_placeLetters x l)) : wpX_setBehind post (f_productionCount, f_textLength, f_anythingBuilt, f_tokenCount, f_parseValue, f_parsePlace, a_ruleTerms, a_ruleLengths, a_skips, a_grammar, a_ranks, a_groupings, a_text, a_heads, a_tails, a_empties, a_placeLetters, a_followers, a_ruleEnds, a_sets, a_steps, a_classes, a_finerClasses, a_states, a_moves, a_begins, a_lookaheads, a_builtCounts, a_builtSteps, a_builtMatches, a_builtSkips, a_builtGrammar, a_builtMoves, a_builtActions, a_tokenRules, a_tokenBegins, a_tokenEnds, a_stackStates, a_stackValues) x (nI l) := ⟨18, xb_6 H 17 0 (by omega)⟩
theorem xo_3 {post : Int32 → Prop} {v : Int64} {c : Nat} (hc : c ≤ 61) (H : post (nI (fnd a_sets v c))) : ∀ d k, k + d = c → (∀ j, j < k → a_sets j ≠ v) → wX_slotOf__sets_3 post v (nI c) f_productionCount f_textLength f_anythingBuilt f_tokenCount f_parseValue f_parsePlace a_ruleTerms a_ruleLengths a_skips a_grammar a_ranks a_groupings a_text a_heads a_tails a_empties a_placeLetters a_followers a_ruleEnds a_sets a_steps a_classes a_finerClasses a_states a_moves a_begins a_lookaheads a_builtCounts a_builtSteps a_builtMatches a_builtSkips a_builtGrammar a_builtMoves a_builtActions a_tokenRules a_tokenBegins a_tokenEnds a_stackStates a_stackValues (d + 1) (nI k) := by
  intro d
  induction d with
  | zero =>
    intro k hk h
    have : k = c := by omega
    subst this
    have e := fnd_u (Nat.le_refl k) h (fun z => absurd z (by omega))
    rw [e] at H
    exact pk_le 61 k (fun _ => H) (fun _ => pk_le k k (fun _ => H) (fun z => absurd z (by omega)))
  | succ d ih =>
    intro k hk h
    refine pk_le 61 k (fun z => absurd z (by omega)) (fun _ => pk_le c k (fun z => absurd z (by omega)) (fun _ => ⟨vp_in_nI (by omega) (by omega), ?_⟩))
    rw [nI_clamp (show k < 2 ^ 31 by omega)]
    by_cases e : a_sets k = v
    · rw [fnd_u (show k ≤ c by omega) h (fun _ => e)] at H
      exact br_t e H
    · refine br_f e (nm_r (nI_1 k) (ih (k + 1) (by omega) (fun j hj => ?_)))
      by_cases z : j = k
      · subst z; exact e
      · exact h j (by omega)
theorem xo_ {post : Int32 → Prop} {v : Int64} {c : Nat} (hc : c ≤ 61) (H : post (nI (fnd a_sets v c))) : wpX_slotOf__sets post (f_productionCount, f_textLength, f_anythingBuilt, f_tokenCount, f_parseValue, f_parsePlace, a_ruleTerms, a_ruleLengths, a_skips, a_grammar, a_ranks, a_groupings, a_text, a_heads, a_tails, a_empties, a_placeLetters, a_followers, a_ruleEnds, a_sets, a_steps, a_classes, a_finerClasses, a_states, a_moves, a_begins, a_lookaheads, a_builtCounts, a_builtSteps, a_builtMatches, a_builtSkips, a_builtGrammar, a_builtMoves, a_builtActions, a_tokenRules, a_tokenBegins, a_tokenEnds, a_stackStates, a_stackValues) v (nI c) := ⟨c + 1, xo_3 hc H c 0 (by omega) (fun j hj => absurd hj (Nat.not_lt_zero _))⟩
/-- the sets listed so far, on both sides -/
def SR (tm sz : Nat → Nat) (ix : Nat) (b : Nat × (Nat → Int64) × (Nat → Int32)) (sx : Nat → Int64) (mx : Nat → Int32) : Prop :=
  sx 0 = 65536 ∧ b.2.1 0 = 0 ∧ (∀ k, 1 ≤ k → k < b.1 → rpS tm sz (sx k) (b.2.1 k)) ∧ ∀ j, j < ix → mx j = b.2.2 j
theorem xro_26 {post : Int32 → SX → Prop} {J13 : Int32 → Int32 → (Nat → Int32) → (Nat → Int32) → (Nat → Int32) → (Nat → Int32) → (Nat → Int32) → (Nat → Int32) → (Nat → Int32) → (Nat → Int32) → (Nat → Int32) → (Nat → Int32) → (Nat → Int32) → (Nat → Int32) → (Nat → Int32) → (Nat → Int64) → (Nat → Int32) → (Nat → Int32) → (Nat → Int32) → (Nat → Int64) → (Nat → Int32) → (Nat → Int32) → (Nat → Int32) → (Nat → Int32) → (Nat → Int32) → (Nat → Int32) → (Nat → Int32) → (Nat → Int32) → (Nat → Int32) → (Nat → Int32) → (Nat → Int32) → (Nat → Int32) → (Nat → Int32) → (Nat → Int32) → (Nat → Int32) → Prop} {start : Int64} {ends foY : Nat → Int64} {tm sz : Nat → Nat} (hw : rwf tm sz) (hx : xLaid tm sz 4 a_placeLetters a_followers a_ruleEnds) (hy : yLaid tm sz 4 start ends foY) {s : Nat} {b0 : Nat × (Nat → Int64) × (Nat → Int32)} (hs61 : s < 61) (h61 : b0.1 ≤ 61) (hs : s < b0.1)
    (Hn : row 61 4 (trY foY tm start s (b0.2.1 s)) s b0 4 = none → ∀ (sx : Nat → Int64) (mx : Nat → Int32), post (-1) (f_productionCount, f_textLength, f_anythingBuilt, f_tokenCount, f_parseValue, f_parsePlace, a_ruleTerms, a_ruleLengths, a_skips, a_grammar, a_ranks, a_groupings, a_text, a_heads, a_tails, a_empties, a_placeLetters, a_followers, a_ruleEnds, sx, mx, a_classes, a_finerClasses, a_states, a_moves, a_begins, a_lookaheads, a_builtCounts, a_builtSteps, a_builtMatches, a_builtSkips, a_builtGrammar, a_builtMoves, a_builtActions, a_tokenRules, a_tokenBegins, a_tokenEnds, a_stackStates, a_stackValues))
    (Hs : ∀ b (sx : Nat → Int64) (mx : Nat → Int32), row 61 4 (trY foY tm start s (b0.2.1 s)) s b0 4 = some b → SR tm sz (4 * (s + 1)) b sx mx → J13 (nI b.1) (nI (s + 1)) a_ruleTerms a_ruleLengths a_skips a_grammar a_ranks a_groupings a_text a_heads a_tails a_empties a_placeLetters a_followers a_ruleEnds sx mx a_classes a_finerClasses a_states a_moves a_begins a_lookaheads a_builtCounts a_builtSteps a_builtMatches a_builtSkips a_builtGrammar a_builtMoves a_builtActions a_tokenRules a_tokenBegins a_tokenEnds a_stackStates a_stackValues) :
    ∀ d l b (sx : Nat → Int64) (mx : Nat → Int32), l + d = 4 → row 61 4 (trY foY tm start s (b0.2.1 s)) s b0 l = some b → b.1 ≤ 61 → s < b.1 → b.2.1 s = b0.2.1 s → SR tm sz (4 * s + l) b sx mx →
      wX_findSets_26 post J13 (nI s) f_productionCount f_textLength f_anythingBuilt f_tokenCount f_parseValue f_parsePlace (d + 1) (nI b.1) (nI l) a_ruleTerms a_ruleLengths a_skips a_grammar a_ranks a_groupings a_text a_heads a_tails a_empties a_placeLetters a_followers a_ruleEnds sx mx a_classes a_finerClasses a_states a_moves a_begins a_lookaheads a_builtCounts a_builtSteps a_builtMatches a_builtSkips a_builtGrammar a_builtMoves a_builtActions a_tokenRules a_tokenBegins a_tokenEnds a_stackStates a_stackValues := by
  intro d
  induction d with
  | zero =>
    intro l b sx mx hl hr g2 g3 g4 h
    have : l = 4 := by omega
    subst this
    exact pk_le 4 4 (fun _ => nm_r (nI_1 s) (Hs b sx mx hr h)) (fun z => absurd z (by omega))
  | succ d ih =>
    intro l b sx mx hl hr g2 g3 g4 h
    obtain ⟨k1, k2, k3, k4⟩ := h
    have hrep := tr_rp hw hx hy (s := s) (l := l) (by omega) (x := sx s) (y := b0.2.1 s) (fun e => by subst e; exact k1) (fun e => by rw [← g4]; exact k3 s (by omega) g3)
    have hrow : row 61 4 (trY foY tm start s (b0.2.1 s)) s b0 (l + 1) = cel 61 (4 * s + l) (trY foY tm start s (b0.2.1 s) l) b := by
      show (row 61 4 (trY foY tm start s (b0.2.1 s)) s b0 l).bind _ = _
      rw [hr]; rfl
    refine pk_le 4 l (fun z => absurd z (by omega)) (fun _ => ⟨vp_in_nI (by omega) (by omega), ?_⟩)
    rw [nI_clamp (show s < 2 ^ 31 by omega)]
    refine xb_ ?_
    generalize trX a_followers a_placeLetters (sx s) l = v at hrep
    generalize trY foY tm start s (b0.2.1 s) l = w at hrep hrow
    have e4 : nI s * 4 + nI l = nI (4 * s + l) := by rw [show (4 : Int32) = nI 4 from rfl, pk_mul, nI_add]; congr 1; omega
    have i4 : vp_in (nI (4 * s + l)) 244 := vp_in_nI (by omega) (by omega)
    have hv0 : v = 0 ↔ w = 0 := rpS_i hrep (rpS_0 tm sz)
    have u16 : lcn tm sz 32 ≤ 16 := lcn_4 hw 4 (by omega)
    have hfn : w ≠ 0 → fnd sx v b.1 = fnd b.2.1 w b.1 := by
      intro w0
      obtain ⟨f1, f2, f3⟩ := fnd_s b.2.1 w b.1
      have key : ∀ j, j < b.1 → (sx j = v ↔ b.2.1 j = w) := by
        intro j hj
        by_cases z : j = 0
        · subst z
          rw [k1, k2]
          refine ⟨fun e => ?_, fun e => absurd e.symm w0⟩
          have := hrep.2.1 16 u16
          rw [← e] at this
          exact absurd this (by decide)
        · exact rpS_i (k3 j (by omega) hj) hrep
      exact fnd_u f1 (fun j hj => fun e => f2 j hj ((key j (by omega)).mp e)) (fun hk => (key _ hk).mpr (f3 hk))
    have next : ∀ b' (sx' : Nat → Int64) (mx' : Nat → Int32), cel 61 (4 * s + l) w b = some b' → SR tm sz (4 * s + (l + 1)) b' sx' mx' → wX_findSets_26 post J13 (nI s) f_productionCount f_textLength f_anythingBuilt f_tokenCount f_parseValue f_parsePlace (d + 1) (nI b'.1) (nI (l + 1)) a_ruleTerms a_ruleLengths a_skips a_grammar a_ranks a_groupings a_text a_heads a_tails a_empties a_placeLetters a_followers a_ruleEnds (sx') (mx') a_classes a_finerClasses a_states a_moves a_begins a_lookaheads a_builtCounts a_builtSteps a_builtMatches a_builtSkips a_builtGrammar a_builtMoves a_builtActions a_tokenRules a_tokenBegins a_tokenEnds a_stackStates a_stackValues := by
      intro b' sx' mx' hb' h'
      obtain ⟨c1, c2, c3, -⟩ := cel_c g2 hb'
      exact ih (l + 1) b' sx' mx' (by omega) (hrow.trans hb') c2 (by omega) (by rw [c3 s g3]; exact g4) h'
    have mxs : ∀ (x : Int32) (M : Nat → Int32), (∀ j, j < 4 * s + l → mx j = M j) → ∀ j, j < 4 * s + (l + 1) → upd mx (4 * s + l) x j = upd M (4 * s + l) x j := by
      intro x M hM j hj
      by_cases z : j = 4 * s + l
      · subst z; rw [pk_us, pk_us]
      · rw [pk_un z, pk_un z]; exact hM j (by omega)
    by_cases w0 : w = 0
    · refine br_t (hv0.mpr w0) (br_f (by decide) (br_f (fun e => zn_ne1 (n := b.1) (by omega) e.symm) ?_))
      unfold wX_findSets_93
      rw [e4, nI_clamp (by omega)]
      refine ⟨i4, nm_e (nm_r (nI_1 l) (next (b.1, b.2.1, upd b.2.2 (4 * s + l) (-1)) sx _ ?_ ⟨k1, k2, k3, mxs _ _ k4⟩))⟩
      unfold cel; rw [if_pos w0]
    · refine br_f (fun e => w0 (hv0.mp e)) (xo_ (a_sets := sx) g2 ?_)
      rw [hfn w0]
      obtain ⟨f1, f2, f3⟩ := fnd_s b.2.1 w b.1
      generalize hk : fnd b.2.1 w b.1 = k at f1 f2 f3
      refine pk_eq k 61 (fun e61 => ?_) (fun n61 => pk_eq k b.1 (fun e => ⟨vp_in_nI (by omega) (by omega), ?_⟩) (fun ne => ?_))
      · have : cel 61 (4 * s + l) w b = none := by
          unfold cel; rw [if_neg w0, hk, if_pos e61]
        rw [this] at hrow
        have h4 := row_n hrow (3 - l)
        rw [show l + 1 + (3 - l) = 4 by omega] at h4
        exact Hn h4 sx mx
      · rw [nI_clamp (show b.1 < 2 ^ 31 by omega)]
        refine nm_e (nm_r (nI_1 b.1) ?_)
        unfold wX_findSets_93
        rw [e4, nI_clamp (by omega), e]
        refine ⟨i4, nm_e (nm_r (nI_1 l) (next (b.1 + 1, vp_updL b.2.1 b.1 w, upd b.2.2 (4 * s + l) (nI b.1)) (vp_updL sx b.1 v) _ ?_ ⟨?_, ?_, fun j j1 j2 => ?_, mxs _ _ k4⟩))⟩
        · unfold cel; rw [if_neg w0, hk, if_neg n61, if_pos e]
        · rw [ul_n (by omega)]; exact k1
        · show vp_updL b.2.1 b.1 w 0 = 0
          rw [ul_n (by omega)]; exact k2
        · show rpS tm sz (vp_updL sx b.1 v j) (vp_updL b.2.1 b.1 w j)
          by_cases z : j = b.1
          · subst z; rw [ul_s, ul_s]; exact hrep
          · have : j < b.1 + 1 := j2
            rw [ul_n z, ul_n z]; exact k3 j j1 (by omega)
      · unfold wX_findSets_93
        rw [e4, nI_clamp (by omega)]
        refine ⟨i4, nm_e (nm_r (nI_1 l) (next (b.1, b.2.1, upd b.2.2 (4 * s + l) (nI k)) sx _ ?_ ⟨k1, k2, k3, mxs _ _ k4⟩))⟩
        unfold cel; rw [if_neg w0, hk, if_neg n61, if_neg ne]
theorem xro_13 {post : Int32 → SX → Prop} {start : Int64} {ends foY : Nat → Int64} {tm sz : Nat → Nat} (hw : rwf tm sz) (hx : xLaid tm sz 4 a_placeLetters a_followers a_ruleEnds) (hy : yLaid tm sz 4 start ends foY) {b0 : Nat × (Nat → Int64) × (Nat → Int32)} (h1 : b0.1 = 1)
    (Hn : bf 61 4 (trY foY tm start) b0 61 = none → ∀ (sx : Nat → Int64) (mx : Nat → Int32), post (-1) (f_productionCount, f_textLength, f_anythingBuilt, f_tokenCount, f_parseValue, f_parsePlace, a_ruleTerms, a_ruleLengths, a_skips, a_grammar, a_ranks, a_groupings, a_text, a_heads, a_tails, a_empties, a_placeLetters, a_followers, a_ruleEnds, sx, mx, a_classes, a_finerClasses, a_states, a_moves, a_begins, a_lookaheads, a_builtCounts, a_builtSteps, a_builtMatches, a_builtSkips, a_builtGrammar, a_builtMoves, a_builtActions, a_tokenRules, a_tokenBegins, a_tokenEnds, a_stackStates, a_stackValues))
    (Hs : ∀ b (sx : Nat → Int64) (mx : Nat → Int32), bf 61 4 (trY foY tm start) b0 61 = some b → SR tm sz (4 * b.1) b sx mx → post (nI b.1) (f_productionCount, f_textLength, f_anythingBuilt, f_tokenCount, f_parseValue, f_parsePlace, a_ruleTerms, a_ruleLengths, a_skips, a_grammar, a_ranks, a_groupings, a_text, a_heads, a_tails, a_empties, a_placeLetters, a_followers, a_ruleEnds, sx, mx, a_classes, a_finerClasses, a_states, a_moves, a_begins, a_lookaheads, a_builtCounts, a_builtSteps, a_builtMatches, a_builtSkips, a_builtGrammar, a_builtMoves, a_builtActions, a_tokenRules, a_tokenBegins, a_tokenEnds, a_stackStates, a_stackValues)) :
    ∀ d s b (sx : Nat → Int64) (mx : Nat → Int32), s + d = 61 → s ≤ b.1 → bf 61 4 (trY foY tm start) b0 s = some b → SR tm sz (4 * s) b sx mx →
      wX_findSets_13 post f_productionCount f_textLength f_anythingBuilt f_tokenCount f_parseValue f_parsePlace (d + 1) (nI b.1) (nI s) a_ruleTerms a_ruleLengths a_skips a_grammar a_ranks a_groupings a_text a_heads a_tails a_empties a_placeLetters a_followers a_ruleEnds sx mx a_classes a_finerClasses a_states a_moves a_begins a_lookaheads a_builtCounts a_builtSteps a_builtMatches a_builtSkips a_builtGrammar a_builtMoves a_builtActions a_tokenRules a_tokenBegins a_tokenEnds a_stackStates a_stackValues := by
  intro d
  induction d with
  | zero =>
    intro s b sx mx hs hsb hb h
    have : s = 61 := by omega
    subst this
    obtain ⟨⟨i1, i2, -⟩, -⟩ := bf_i h1 (by omega) 61 b hb
    have e : b.1 = 61 := by omega
    rw [← e] at h
    exact pk_le 61 61 (fun _ => Hs b sx mx hb h) (fun z => absurd z (by omega))
  | succ d ih =>
    intro s b sx mx hs hsb hb h
    obtain ⟨⟨i1, i2, i3⟩, i4⟩ := bf_i h1 (by omega) s b hb
    refine pk_le 61 s (fun z => absurd z (by omega)) (fun _ => pk_le b.1 s (fun z => ?_) (fun z => ?_))
    · have e : b.1 = s := by omega
      have := bf_e hb z (61 - s)
      rw [show s + (61 - s) = 61 by omega] at this
      rw [← e] at h
      exact Hs b sx mx this h
    · have hstep : bf 61 4 (trY foY tm start) b0 (s + 1) = row 61 4 (trY foY tm start s (b.2.1 s)) s b 4 := by
        show (bf 61 4 (trY foY tm start) b0 s).bind _ = _
        rw [hb]
        show (if s < b.1 then _ else _) = _
        rw [if_pos z]
      refine ⟨5, xro_26 hw hx hy (b0 := b) (by omega) i2 z (fun hn sx' mx' => ?_) (fun b' sx' mx' hb' h' => ?_) 4 0 b sx mx (by omega) rfl i2 z rfl h⟩
      · rw [hn] at hstep
        have := bf_n hstep (60 - s)
        rw [show s + 1 + (60 - s) = 61 by omega] at this
        exact Hn this sx' mx'
      · obtain ⟨-, j5, -⟩ := row_i z ⟨i1, i2, i3⟩ 4 b' (Nat.le_refl _) hb'
        rw [hb'] at hstep
        exact ih (s + 1) b' sx' mx' (by omega) (by omega) hstep h'
/-- the component's listing of sets -/
theorem x_sets {post : Int32 → SX → Prop} {start : Int64} {ends foY : Nat → Int64} {tm sz : Nat → Nat} (hw : rwf tm sz) (hx : xLaid tm sz 4 a_placeLetters a_followers a_ruleEnds) (hy : yLaid tm sz 4 start ends foY) {G0 : Nat → Int64} {M0 : Nat → Int32} (hG : G0 0 = 0)
    (Hn : bf 61 4 (trY foY tm start) (1, G0, M0) 61 = none → ∀ (sx : Nat → Int64) (mx : Nat → Int32), post (-1) (f_productionCount, f_textLength, f_anythingBuilt, f_tokenCount, f_parseValue, f_parsePlace, a_ruleTerms, a_ruleLengths, a_skips, a_grammar, a_ranks, a_groupings, a_text, a_heads, a_tails, a_empties, a_placeLetters, a_followers, a_ruleEnds, sx, mx, a_classes, a_finerClasses, a_states, a_moves, a_begins, a_lookaheads, a_builtCounts, a_builtSteps, a_builtMatches, a_builtSkips, a_builtGrammar, a_builtMoves, a_builtActions, a_tokenRules, a_tokenBegins, a_tokenEnds, a_stackStates, a_stackValues))
    (Hs : ∀ b (sx : Nat → Int64) (mx : Nat → Int32), bf 61 4 (trY foY tm start) (1, G0, M0) 61 = some b → SR tm sz (4 * b.1) b sx mx → post (nI b.1) (f_productionCount, f_textLength, f_anythingBuilt, f_tokenCount, f_parseValue, f_parsePlace, a_ruleTerms, a_ruleLengths, a_skips, a_grammar, a_ranks, a_groupings, a_text, a_heads, a_tails, a_empties, a_placeLetters, a_followers, a_ruleEnds, sx, mx, a_classes, a_finerClasses, a_states, a_moves, a_begins, a_lookaheads, a_builtCounts, a_builtSteps, a_builtMatches, a_builtSkips, a_builtGrammar, a_builtMoves, a_builtActions, a_tokenRules, a_tokenBegins, a_tokenEnds, a_stackStates, a_stackValues)) : wpX_findSets post (f_productionCount, f_textLength, f_anythingBuilt, f_tokenCount, f_parseValue, f_parsePlace, a_ruleTerms, a_ruleLengths, a_skips, a_grammar, a_ranks, a_groupings, a_text, a_heads, a_tails, a_empties, a_placeLetters, a_followers, a_ruleEnds, a_sets, a_steps, a_classes, a_finerClasses, a_states, a_moves, a_begins, a_lookaheads, a_builtCounts, a_builtSteps, a_builtMatches, a_builtSkips, a_builtGrammar, a_builtMoves, a_builtActions, a_tokenRules, a_tokenBegins, a_tokenEnds, a_stackStates, a_stackValues) :=
  nm_e ⟨62, xro_13 hw hx hy (b0 := (1, G0, M0)) rfl Hn Hs 61 0 (1, G0, M0) (vp_updL a_sets 0 65536) a_steps (by omega) (by show 0 ≤ 1; omega) rfl ⟨ul_s, hG, fun k a b => absurd (show k < 1 from b) (by omega), fun j hj => absurd hj (Nat.not_lt_zero _)⟩⟩
end
end
section
/-! items: what stands behind them, closures -/
def nxt (W : Nat → Nat) (R : Nat → Nat → Nat) (i : Nat) : Int32 := if i % 4 < W (i / 4) then nI (R (i / 4) (i % 4)) else -1
def bgF (L : Nat → Nat) (x : Int32) : Nat → Int64
  | 0 => 0
  | p + 1 => if nI (L p) = x then bgF L x p ||| ((1 : Int64) <<< ((nI (4 * p)).toInt64 &&& 63)) else bgF L x p
def rr (pc : Nat) (L W : Nat → Nat) (R : Nat → Nat → Nat) : Nat → Int64 → Int64
  | 0, a => a
  | i + 1, a => if bl (rr pc L W R i a) i then rr pc L W R i a ||| bgF L (nxt W R i) pc else rr pc L W R i a
def bhF (W : Nat → Nat) (R : Nat → Nat → Nat) (a : Int64) (x : Int32) : Nat → Int64
  | 0 => 0
  | i + 1 => if bl a i = true ∧ nxt W R i = x then bhF W R a x i ||| ((1 : Int64) <<< ((nI (i + 1)).toInt64 &&& 63)) else bhF W R a x i
def clo (pc : Nat) (L W : Nat → Nat) (R : Nat → Nat → Nat) (a : Int64) : Int64 := rr pc L W R 34 (rr pc L W R 34 (rr pc L W R 34 a))
theorem bg_b {L : Nat → Nat} {x : Int32} {j : Nat} : ∀ n, n ≤ 8 → (bl (bgF L x n) j = true ↔ ∃ p, p < n ∧ nI (L p) = x ∧ j = 4 * p)
  | 0, _ => ⟨fun h => by unfold bgF at h; rw [zb_0] at h; exact absurd h (by decide), fun ⟨p, h, _⟩ => absurd h (Nat.not_lt_zero _)⟩
  | n + 1, hn => by
    unfold bgF
    by_cases c : nI (L n) = x
    · rw [if_pos c, zb_or, Bool.or_eq_true, bg_b n (by omega), zb_one (by omega), decide_eq_true_eq]
      constructor
      · rintro (⟨p, a, b⟩ | a)
        · exact ⟨p, by omega, b⟩
        · exact ⟨n, by omega, c, a⟩
      · rintro ⟨p, a, b, d⟩
        by_cases e : p = n
        · subst e; exact Or.inr d
        · exact Or.inl ⟨p, by omega, b, d⟩
    · rw [if_neg c, bg_b n (by omega)]
      constructor
      · rintro ⟨p, a, b⟩; exact ⟨p, by omega, b⟩
      · rintro ⟨p, a, b, d⟩
        by_cases e : p = n
        · subst e; exact absurd b c
        · exact ⟨p, by omega, b, d⟩
theorem bh_b {W : Nat → Nat} {R : Nat → Nat → Nat} {a : Int64} {x : Int32} {j : Nat} : ∀ n, n ≤ 36 → (bl (bhF W R a x n) j = true ↔ ∃ i, i < n ∧ bl a i = true ∧ nxt W R i = x ∧ j = i + 1)
  | 0, _ => ⟨fun h => by unfold bhF at h; rw [zb_0] at h; exact absurd h (by decide), fun ⟨p, h, _⟩ => absurd h (Nat.not_lt_zero _)⟩
  | n + 1, hn => by
    unfold bhF
    by_cases c : bl a n = true ∧ nxt W R n = x
    · rw [if_pos c, zb_or, Bool.or_eq_true, bh_b n (by omega), zb_one (by omega), decide_eq_true_eq]
      constructor
      · rintro (⟨p, a, b⟩ | a)
        · exact ⟨p, by omega, b⟩
        · exact ⟨n, by omega, c.1, c.2, a⟩
      · rintro ⟨p, a, b, d, e'⟩
        by_cases e : p = n
        · subst e; exact Or.inr e'
        · exact Or.inl ⟨p, by omega, b, d, e'⟩
    · rw [if_neg c, bh_b n (by omega)]
      constructor
      · rintro ⟨p, a, b⟩; exact ⟨p, by omega, b⟩
      · rintro ⟨p, a, b, d, e'⟩
        by_cases e : p = n
        · subst e; exact absurd ⟨b, d⟩ c
        · exact ⟨p, by omega, b, d, e'⟩
section
variable {pc : Nat} {L W : Nat → Nat} {R : Nat → Nat → Nat}
theorem rr_le {a : Int64} {j : Nat} (h : bl a j = true) : ∀ n, bl (rr pc L W R n a) j = true
  | 0 => h
  | n + 1 => by
    unfold rr
    split
    · rw [zb_or, rr_le h n, Bool.true_or]
    · exact rr_le h n
theorem rr_s {a : Int64} {i : Nat} : rr pc L W R (i + 1) a = if bl (rr pc L W R i a) i then rr pc L W R i a ||| bgF L (nxt W R i) pc else rr pc L W R i a := rfl
theorem rr_up {a : Int64} {j n : Nat} (h : bl (rr pc L W R n a) j = true) : ∀ x, bl (rr pc L W R (n + x) a) j = true
  | 0 => h
  | x + 1 => by
    rw [← Nat.add_assoc, rr_s]
    split
    · rw [zb_or, rr_up h x, Bool.true_or]
    · exact rr_up h x
theorem rr_or {a : Int64} {j : Nat} : ∀ n, bl (rr pc L W R n a) j = true → bl a j = true ∨ ∃ i, i < n ∧ bl (rr pc L W R n a) i = true ∧ bl (bgF L (nxt W R i) pc) j = true
  | 0, h => Or.inl h
  | n + 1, h => by
    have hm : ∀ i, bl (rr pc L W R n a) i = true → bl (rr pc L W R (n + 1) a) i = true := fun i hi => rr_up hi 1
    have old : bl (rr pc L W R n a) j = true → bl a j = true ∨ ∃ i, i < n + 1 ∧ bl (rr pc L W R (n + 1) a) i = true ∧ bl (bgF L (nxt W R i) pc) j = true := by
      intro h
      rcases rr_or n h with z | ⟨i, x, y, z⟩
      · exact Or.inl z
      · exact Or.inr ⟨i, by omega, hm i y, z⟩
    by_cases c : bl (rr pc L W R n a) n = true
    · have e : rr pc L W R (n + 1) a = rr pc L W R n a ||| bgF L (nxt W R n) pc := by rw [rr_s, if_pos c]
      rw [e, zb_or, Bool.or_eq_true] at h
      rcases h with h | h
      · exact old h
      · exact Or.inr ⟨n, by omega, hm n c, h⟩
    · have e : rr pc L W R (n + 1) a = rr pc L W R n a := by rw [rr_s, if_neg c]
      rw [e] at h
      exact old h
/-- closed: what an item stands before is begun -/
theorem rr_fix {a : Int64} (h : ∀ i j, i < 34 → bl a i = true → bl (bgF L (nxt W R i) pc) j = true → bl a j = true) : ∀ n, n ≤ 34 → rr pc L W R n a = a
  | 0, _ => rfl
  | n + 1, hn => by
    unfold rr
    rw [rr_fix h n (by omega)]
    split
    · next c =>
      apply zb_ext
      intro j _
      rw [zb_or]
      cases z : bl (bgF L (nxt W R n) pc) j with
      | false => rw [Bool.or_false]
      | true => rw [h n j (by omega) c z]; rfl
    · rfl
theorem rr_new {a : Int64} : ∀ n, n ≤ 34 → rr pc L W R n a ≠ a → ∃ i, i < n ∧ (∀ j, bl (bgF L (nxt W R i) pc) j = true → bl (rr pc L W R n a) j = true) ∧ ∃ j, bl (bgF L (nxt W R i) pc) j = true ∧ bl a j = false
  | 0, _, h => absurd rfl h
  | n + 1, hn, h => by
    by_cases c : rr pc L W R n a = a
    · unfold rr at h
      rw [c] at h
      by_cases c2 : bl a n = true
      · rw [if_pos c2] at h
        refine ⟨n, by omega, fun j hj => ?_, ?_⟩
        · unfold rr
          rw [c, if_pos c2, zb_or, hj, Bool.or_true]
        · refine Classical.byContradiction (fun hno => h (zb_ext fun j _ => ?_))
          rw [zb_or]
          cases z : bl (bgF L (nxt W R n) pc) j with
          | false => rw [Bool.or_false]
          | true =>
            cases y : bl a j with
            | true => rfl
            | false => exact absurd ⟨j, z, y⟩ hno
      · rw [if_neg c2] at h; exact absurd rfl h
    · obtain ⟨i, x, y, z⟩ := rr_new n (by omega) c
      exact ⟨i, by omega, fun j hj => rr_up (y j hj) 1, z⟩
theorem rr_x {a : Int64} (hL : ∀ p, p < pc → 10 ≤ L p ∧ L p < 13) (hpc : pc ≤ 8) (h : rr pc L W R 34 a ≠ a) : ∃ x, (10 ≤ x ∧ x < 13) ∧ (∀ j, bl (bgF L (nI x) pc) j = true → bl (rr pc L W R 34 a) j = true) ∧ ∃ j, bl (bgF L (nI x) pc) j = true ∧ bl a j = false := by
  obtain ⟨i, -, x, j, y, z⟩ := rr_new 34 (Nat.le_refl _) h
  obtain ⟨p, hp, e, -⟩ := (bg_b pc hpc).mp y
  rw [← e] at x y
  exact ⟨L p, hL p hp, x, j, y, z⟩
theorem rr_3 {a : Int64} (hL : ∀ p, p < pc → 10 ≤ L p ∧ L p < 13) (hpc : pc ≤ 8) : rr pc L W R 34 (clo pc L W R a) = clo pc L W R a := by
  unfold clo
  generalize e1 : rr pc L W R 34 a = a1
  generalize e2 : rr pc L W R 34 a1 = a2
  generalize e3 : rr pc L W R 34 a2 = a3
  by_cases c3 : rr pc L W R 34 a3 = a3
  · exact c3
  exfalso
  have m1 : ∀ j, bl a j = true → bl a1 j = true := fun j h => by rw [← e1]; exact rr_le h 34
  have m2 : ∀ j, bl a1 j = true → bl a2 j = true := fun j h => by rw [← e2]; exact rr_le h 34
  have m3 : ∀ j, bl a2 j = true → bl a3 j = true := fun j h => by rw [← e3]; exact rr_le h 34
  have c2 : rr pc L W R 34 a2 ≠ a2 := fun z => c3 (by rw [← e3, z, z])
  have c1 : rr pc L W R 34 a1 ≠ a1 := fun z => c2 (by rw [← e2, z, z])
  have c0 : rr pc L W R 34 a ≠ a := fun z => c1 (by rw [← e1, z, z])
  obtain ⟨x0, r0, s0, j0, t0, u0⟩ := rr_x hL hpc c0
  obtain ⟨x1, r1, s1, j1, t1, u1⟩ := rr_x hL hpc c1
  obtain ⟨x2, r2, s2, j2, t2, u2⟩ := rr_x hL hpc c2
  obtain ⟨x3, r3, s3, j3, t3, u3⟩ := rr_x hL hpc c3
  rw [e1] at s0
  rw [e2] at s1
  rw [e3] at s2
  have ne : ∀ {x y j : Nat} {b : Int64}, (∀ j, bl (bgF L (nI x) pc) j = true → bl b j = true) → bl (bgF L (nI y) pc) j = true → bl b j = false → x ≠ y := by
    intro x y j b h1 h2 h3 e
    subst e
    rw [h1 j h2] at h3; exact absurd h3 (by decide)
  have n01 := ne s0 t1 u1
  have n02 := ne (fun j h => m2 j (s0 j h)) t2 u2
  have n03 := ne (fun j h => m3 j (m2 j (s0 j h))) t3 u3
  have n12 := ne s1 t2 u2
  have n13 := ne (fun j h => m3 j (s1 j h)) t3 u3
  have n23 := ne s2 t3 u3
  omega
theorem clo_le {a : Int64} {j : Nat} (h : bl a j = true) : bl (clo pc L W R a) j = true := rr_le (rr_le (rr_le h 34) 34) 34
theorem clo_cl {a : Int64} (hL : ∀ p, p < pc → 10 ≤ L p ∧ L p < 13) (hpc : pc ≤ 8) {i j : Nat} (hi : i < 34) (h : bl (clo pc L W R a) i = true) (hj : bl (bgF L (nxt W R i) pc) j = true) : bl (clo pc L W R a) j = true := by
  have e := rr_3 (a := a) (W := W) (R := R) hL hpc
  generalize clo pc L W R a = c at *
  rw [← e]
  have h1 : bl (rr pc L W R (i + 1) c) j = true := by
    unfold rr
    rw [if_pos (rr_le h i), zb_or, hj, Bool.or_true]
  have := rr_up h1 (33 - i)
  rw [show i + 1 + (33 - i) = 34 by omega] at this
  exact this
theorem clo_or {a : Int64} {j : Nat} (h : bl (clo pc L W R a) j = true) : bl a j = true ∨ ∃ i, i < 34 ∧ bl (clo pc L W R a) i = true ∧ bl (bgF L (nxt W R i) pc) j = true := by
  unfold clo at h ⊢
  rcases rr_or 34 h with h | h
  · rcases rr_or 34 h with h | ⟨i, x, y, z⟩
    · rcases rr_or 34 h with h | ⟨i, x, y, z⟩
      · exact Or.inl h
      · exact Or.inr ⟨i, x, rr_le (rr_le y 34) 34, z⟩
    · exact Or.inr ⟨i, x, rr_le y 34, z⟩
  · exact Or.inr h
theorem clo_0 : clo pc L W R 0 = 0 := by
  have : rr pc L W R 34 0 = 0 := rr_fix (fun i j _ h => by rw [zb_0] at h; exact absurd h (by decide)) 34 (Nat.le_refl _)
  unfold clo; rw [this, this, this]
theorem rr_36 {a : Int64} (h : ∀ j, 34 ≤ j → bl a j = false) (hpc : pc ≤ 8) : rr pc L W R 36 a = rr pc L W R 34 a ∧ ∀ j, 34 ≤ j → bl (rr pc L W R 34 a) j = false := by
  have h34 : ∀ j, 34 ≤ j → bl (rr pc L W R 34 a) j = false := by
    intro j hj
    cases z : bl (rr pc L W R 34 a) j with
    | false => rfl
    | true =>
      rcases rr_or 34 z with y | ⟨i, _, _, y⟩
      · rw [h j hj] at y; exact absurd y (by decide)
      · obtain ⟨p, hp, _, e⟩ := (bg_b pc hpc).mp y
        omega
  refine ⟨?_, h34⟩
  have e35 : rr pc L W R (34 + 1) a = rr pc L W R 34 a := by
    rw [rr_s, if_neg (by rw [h34 34 (by omega)]; decide)]
  have e36 : rr pc L W R (34 + 1 + 1) a = rr pc L W R 34 a := by
    rw [rr_s, e35, if_neg (by rw [h34 35 (by omega)]; decide)]
  exact e36
theorem clo_Y {a : Int64} (hL : ∀ p, p < pc → 10 ≤ L p ∧ L p < 13) (hpc : pc ≤ 8) (h : ∀ j, 34 ≤ j → bl a j = false) :
    rr pc L W R 36 (rr pc L W R 36 (rr pc L W R 36 (rr pc L W R 36 a))) = clo pc L W R a ∧ ∀ j, 34 ≤ j → bl (clo pc L W R a) j = false := by
  obtain ⟨a1, b1⟩ := rr_36 (L := L) (W := W) (R := R) h hpc
  obtain ⟨a2, b2⟩ := rr_36 (L := L) (W := W) (R := R) b1 hpc
  obtain ⟨a3, b3⟩ := rr_36 (L := L) (W := W) (R := R) b2 hpc
  obtain ⟨a4, b4⟩ := rr_36 (L := L) (W := W) (R := R) b3 hpc
  rw [a1, a2, a3, a4]
  exact ⟨rr_3 hL hpc, b3⟩
end
section
variable {f_productionCount f_textLength f_anythingBuilt f_tokenCount f_parseValue f_parsePlace : Int32} {a_ruleTerms a_ruleLengths a_skips a_grammar a_ranks a_groupings a_text a_heads a_tails a_empties a_placeLetters a_followers a_ruleEnds : Nat → Int32} {a_sets : Nat → Int64} {a_steps a_classes a_finerClasses : Nat → Int32} {a_states : Nat → Int64} {a_moves a_begins a_lookaheads a_builtCounts a_builtSteps a_builtMatches a_builtSkips a_builtGrammar a_builtMoves a_builtActions a_tokenRules a_tokenBegins a_tokenEnds a_stackStates a_stackValues : Nat → Int32} {pc : Nat} {L W : Nat → Nat} {R : Nat → Nat → Nat}
theorem xy_ {post : Int32 → Prop} {i : Nat} (hi : i < 36) (hV : gr_V pc L W R) (hX : gr_X a_grammar L W R) (H : post (nxt W R i)) : wpX_symbolBehind post (f_productionCount, f_textLength, f_anythingBuilt, f_tokenCount, f_parseValue, f_parsePlace, a_ruleTerms, a_ruleLengths, a_skips, a_grammar, a_ranks, a_groupings, a_text, a_heads, a_tails, a_empties, a_placeLetters, a_followers, a_ruleEnds, a_sets, a_steps, a_classes, a_finerClasses, a_states, a_moves, a_begins, a_lookaheads, a_builtCounts, a_builtSteps, a_builtMatches, a_builtSkips, a_builtGrammar, a_builtMoves, a_builtActions, a_tokenRules, a_tokenBegins, a_tokenEnds, a_stackStates, a_stackValues) (nI i) := by
  obtain ⟨g1, g2, g3⟩ := hX (i / 4) (by omega)
  have hw := (hV.2.1 (i / 4)).2.1
  unfold wpX_symbolBehind
  dsimp only
  rw [show (4 : Int32) = nI 4 from rfl, pk_rem (by omega) (by omega) (by omega), pk_div (by omega) (by omega) (by omega), show nI (i / 4) * 7 = nI (7 * (i / 4)) from by rw [show (7 : Int32) = nI 7 from rfl, pk_mul]; congr 1; omega]
  refine ⟨by decide, nm_e ⟨by decide, nm_e ?_⟩⟩
  rw [show nI (7 * (i / 4)) + 1 = nI (7 * (i / 4) + 1) from nI_1 _, show nI (7 * (i / 4)) + 2 = nI (7 * (i / 4) + 2) from nI_add _ 2, nI_add, nI_clamp (by omega), nI_clamp (show 7 * (i / 4) + 2 + i % 4 < 2 ^ 31 by omega), g2]
  refine ⟨vp_in_nI (by omega) (by omega), ?_⟩
  unfold nxt at H
  refine pk_le (W (i / 4)) (i % 4) (fun c => ?_) (fun c => ?_)
  · rw [if_neg (by omega)] at H; exact H
  · rw [if_pos c] at H
    rw [g3 _ c]
    exact ⟨vp_in_nI (by omega) (by omega), H⟩
theorem xg_5 {post : Int64 → Prop} {x : Int32} (hV : gr_V pc L W R) (hX : gr_X a_grammar L W R) (H : post (bgF L x pc)) : ∀ d p, p + d = pc → wX_beginningsOf_5 post x (nI pc) f_textLength f_anythingBuilt f_tokenCount f_parseValue f_parsePlace a_ruleTerms a_ruleLengths a_skips a_grammar a_ranks a_groupings a_text a_heads a_tails a_empties a_placeLetters a_followers a_ruleEnds a_sets a_steps a_classes a_finerClasses a_states a_moves a_begins a_lookaheads a_builtCounts a_builtSteps a_builtMatches a_builtSkips a_builtGrammar a_builtMoves a_builtActions a_tokenRules a_tokenBegins a_tokenEnds a_stackStates a_stackValues (d + 1) (bgF L x p) (nI p) := by
  have hpc := hV.1
  intro d
  induction d with
  | zero =>
    intro p hp
    have : p = pc := by omega
    subst this
    exact pk_le 8 p (fun _ => H) (fun _ => pk_le p p (fun _ => H) (fun z => absurd z (by omega)))
  | succ d ih =>
    intro p hp
    have ih' := ih (p + 1) (by omega)
    unfold bgF at ih'
    refine pk_le 8 p (fun z => absurd z (by omega)) (fun _ => pk_le pc p (fun z => absurd z (by omega)) (fun _ => ?_))
    rw [show nI p * 7 + 0 = nI (7 * p) from by rw [show (7 : Int32) = nI 7 from rfl, show (0 : Int32) = nI 0 from rfl, pk_mul, nI_add]; congr 1; omega, nI_clamp (by omega), (hX p (by omega)).1, show nI p * 4 = nI (4 * p) from by rw [show (4 : Int32) = nI 4 from rfl, pk_mul]; congr 1; omega]
    refine ⟨vp_in_nI (by omega) (by omega), br_c (fun c => ?_) (fun c => ?_)⟩
    · rw [if_pos c] at ih'
      exact nm_e (nm_r (nI_1 p) ih')
    · rw [if_neg c] at ih'
      exact nm_r (nI_1 p) ih'
theorem xg_b {post : Int64 → Prop} {x : Int32} (hV : gr_V pc L W R) (hX : gr_X a_grammar L W R) (H : post (bgF L x pc)) : wpX_beginningsOf post (nI pc, f_textLength, f_anythingBuilt, f_tokenCount, f_parseValue, f_parsePlace, a_ruleTerms, a_ruleLengths, a_skips, a_grammar, a_ranks, a_groupings, a_text, a_heads, a_tails, a_empties, a_placeLetters, a_followers, a_ruleEnds, a_sets, a_steps, a_classes, a_finerClasses, a_states, a_moves, a_begins, a_lookaheads, a_builtCounts, a_builtSteps, a_builtMatches, a_builtSkips, a_builtGrammar, a_builtMoves, a_builtActions, a_tokenRules, a_tokenBegins, a_tokenEnds, a_stackStates, a_stackValues) x := ⟨pc + 1, xg_5 hV hX H pc 0 (by omega)⟩
theorem xc_14 {post : Int64 → Prop} {J5 : Int64 → Int32 → Prop} {k : Nat} {a : Int64} (hV : gr_V pc L W R) (hX : gr_X a_grammar L W R) (H : J5 (rr pc L W R 34 a) (nI (k + 1))) : ∀ d i, i + d = 34 → wX_closureOf_14 post J5 (nI k) (nI pc) f_textLength f_anythingBuilt f_tokenCount f_parseValue f_parsePlace a_ruleTerms a_ruleLengths a_skips a_grammar a_ranks a_groupings a_text a_heads a_tails a_empties a_placeLetters a_followers a_ruleEnds a_sets a_steps a_classes a_finerClasses a_states a_moves a_begins a_lookaheads a_builtCounts a_builtSteps a_builtMatches a_builtSkips a_builtGrammar a_builtMoves a_builtActions a_tokenRules a_tokenBegins a_tokenEnds a_stackStates a_stackValues (d + 1) (rr pc L W R i a) (nI i) := by
  intro d
  induction d with
  | zero =>
    intro i hi
    have : i = 34 := by omega
    subst this
    exact pk_le 34 34 (fun _ => nm_r (nI_1 k) H) (fun z => absurd z (by omega))
  | succ d ih =>
    intro i hi
    have ih' := ih (i + 1) (by omega)
    rw [rr] at ih'
    refine pk_le 34 i (fun z => absurd z (by omega)) (fun _ => zb_b0 i (fun hb => nm_r (nI_1 i) ?_) (fun hb => xy_ (by omega) hV hX (xg_b hV hX (nm_e (nm_r (nI_1 i) ?_)))))
    · rw [if_neg (by rw [hb]; decide)] at ih'; exact ih'
    · rw [if_pos hb] at ih'; exact ih'
theorem xc_r {post : Int64 → Prop} {J5 : Int64 → Int32 → Prop} {k : Nat} {a : Int64} (hV : gr_V pc L W R) (hX : gr_X a_grammar L W R) (H : J5 (rr pc L W R 34 a) (nI (k + 1))) : ∃ n14 : Nat, wX_closureOf_14 post J5 (nI k) (nI pc) f_textLength f_anythingBuilt f_tokenCount f_parseValue f_parsePlace a_ruleTerms a_ruleLengths a_skips a_grammar a_ranks a_groupings a_text a_heads a_tails a_empties a_placeLetters a_followers a_ruleEnds a_sets a_steps a_classes a_finerClasses a_states a_moves a_begins a_lookaheads a_builtCounts a_builtSteps a_builtMatches a_builtSkips a_builtGrammar a_builtMoves a_builtActions a_tokenRules a_tokenBegins a_tokenEnds a_stackStates a_stackValues n14 a 0 :=
  ⟨35, xc_14 hV hX H 34 0 (by omega)⟩
theorem xcl {post : Int64 → Prop} {a : Int64} (hV : gr_V pc L W R) (hX : gr_X a_grammar L W R) (H : post (clo pc L W R a)) : wpX_closureOf post (nI pc, f_textLength, f_anythingBuilt, f_tokenCount, f_parseValue, f_parsePlace, a_ruleTerms, a_ruleLengths, a_skips, a_grammar, a_ranks, a_groupings, a_text, a_heads, a_tails, a_empties, a_placeLetters, a_followers, a_ruleEnds, a_sets, a_steps, a_classes, a_finerClasses, a_states, a_moves, a_begins, a_lookaheads, a_builtCounts, a_builtSteps, a_builtMatches, a_builtSkips, a_builtGrammar, a_builtMoves, a_builtActions, a_tokenRules, a_tokenBegins, a_tokenEnds, a_stackStates, a_stackValues) a := by
  unfold clo at H
  refine ⟨4, br_f (by decide) (xc_r (k := 0) hV hX ?_)⟩
  generalize rr pc L W R 34 a = a1 at H
  refine br_f (by decide) (xc_r (k := 1) hV hX ?_)
  generalize rr pc L W R 34 a1 = a2 at H
  refine br_f (by decide) (xc_r (k := 2) hV hX ?_)
  generalize rr pc L W R 34 a2 = a3 at H
  exact br_t (by decide) H
theorem xi_6 {post : Int64 → Prop} {a : Int64} {x : Int32} (hV : gr_V pc L W R) (hX : gr_X a_grammar L W R) (H : post (clo pc L W R (bhF W R a x 34))) : ∀ d i, i + d = 34 → wX_itemsBehind_6 post a x (nI pc) f_textLength f_anythingBuilt f_tokenCount f_parseValue f_parsePlace a_ruleTerms a_ruleLengths a_skips a_grammar a_ranks a_groupings a_text a_heads a_tails a_empties a_placeLetters a_followers a_ruleEnds a_sets a_steps a_classes a_finerClasses a_states a_moves a_begins a_lookaheads a_builtCounts a_builtSteps a_builtMatches a_builtSkips a_builtGrammar a_builtMoves a_builtActions a_tokenRules a_tokenBegins a_tokenEnds a_stackStates a_stackValues (d + 1) (bhF W R a x i) (nI i) := by
  intro d
  induction d with
  | zero =>
    intro i hi
    have : i = 34 := by omega
    subst this
    exact pk_le 34 34 (fun _ => xcl hV hX H) (fun z => absurd z (by omega))
  | succ d ih =>
    intro i hi
    have ih' := ih (i + 1) (by omega)
    rw [bhF] at ih'
    refine pk_le 34 i (fun z => absurd z (by omega)) (fun _ => zb_b0 i (fun hb => nm_r (nI_1 i) ?_) (fun hb => xy_ (by omega) hV hX (br_c (fun c => ?_) (fun c => nm_r (nI_1 i) ?_))))
    · rw [if_neg (fun z => by rw [hb] at z; exact absurd z.1 (by decide))] at ih'; exact ih'
    · rw [if_pos ⟨hb, c⟩] at ih'
      rw [nI_1 i]
      exact nm_e (nm_e ih')
    · rw [if_neg (fun z => c z.2)] at ih'; exact ih'
theorem xib {post : Int64 → Prop} {a : Int64} {x : Int32} (hV : gr_V pc L W R) (hX : gr_X a_grammar L W R) (H : post (clo pc L W R (bhF W R a x 34))) : wpX_itemsBehind post (nI pc, f_textLength, f_anythingBuilt, f_tokenCount, f_parseValue, f_parsePlace, a_ruleTerms, a_ruleLengths, a_skips, a_grammar, a_ranks, a_groupings, a_text, a_heads, a_tails, a_empties, a_placeLetters, a_followers, a_ruleEnds, a_sets, a_steps, a_classes, a_finerClasses, a_states, a_moves, a_begins, a_lookaheads, a_builtCounts, a_builtSteps, a_builtMatches, a_builtSkips, a_builtGrammar, a_builtMoves, a_builtActions, a_tokenRules, a_tokenBegins, a_tokenEnds, a_stackStates, a_stackValues) a x := ⟨35, xi_6 hV hX H 34 0 (by omega)⟩
end
section
variable {g_productions : Int32} {g_start : Int64} {g_sets g_states g_conflicts g_ready g_length g_tokens g_stuck g_scanned g_value g_place : Int32} {b_term b_size b_skipped b_left b_right b_width b_op b_constant b_rank b_grouping b_bTerm b_bSize b_bSkipped b_bLeft b_bWidth b_bOp b_bConstant : Nat → Int32} {b_follow b_ends b_first b_last : Nat → Int64} {b_none : Nat → Int32} {b_set : Nat → Int64} {b_leads b_apart : Nat → Int32} {b_state : Nat → Int64} {b_to b_look b_begins b_nullable b_act b_built b_leadTo b_text b_fits b_token b_stack b_worth : Nat → Int32} {pc : Nat} {L W : Nat → Nat} {R : Nat → Nat → Nat}
theorem yy_ {post : Int32 → Prop} {i : Nat} (hi : i < 36) (hV : gr_V pc L W R) (hY : gr_Y b_left b_right b_width L W R) (H : post (nxt W R i)) : wpY_next post (g_productions, g_start, g_sets, g_states, g_conflicts, g_ready, g_length, g_tokens, g_stuck, g_scanned, g_value, g_place, b_term, b_size, b_skipped, b_left, b_right, b_width, b_op, b_constant, b_rank, b_grouping, b_bTerm, b_bSize, b_bSkipped, b_bLeft, b_bWidth, b_bOp, b_bConstant, b_follow, b_ends, b_first, b_last, b_none, b_set, b_leads, b_apart, b_state, b_to, b_look, b_begins, b_nullable, b_act, b_built, b_leadTo, b_text, b_fits, b_token, b_stack, b_worth) (nI i) := by
  obtain ⟨g1, g2, g3⟩ := hY (i / 4) (by omega)
  have hw := (hV.2.1 (i / 4)).2.1
  unfold wpY_next
  dsimp only
  rw [show (4 : Int32) = nI 4 from rfl, pk_rem (by omega) (by omega) (by omega), pk_div (by omega) (by omega) (by omega), show 3 * nI (i / 4) + nI (i % 4) = nI (3 * (i / 4) + i % 4) from by rw [show (3 : Int32) = nI 3 from rfl, pk_mul, nI_add], nI_clamp (show i / 4 < 2 ^ 31 by omega), nI_clamp (show 3 * (i / 4) + i % 4 < 2 ^ 31 by omega), g2]
  refine ⟨by decide, by decide, vp_in_nI (by omega) (by omega), ?_⟩
  unfold nxt at H
  refine pk_le (W (i / 4)) (i % 4) (fun c => ?_) (fun c => ?_)
  · rw [if_neg (by omega)] at H; exact H
  · rw [if_pos c] at H
    rw [g3 _ c]
    exact ⟨by decide, by decide, vp_in_nI (by omega) (by omega), H⟩
theorem yg_5 {post : Int64 → Prop} {x : Int32} (hV : gr_V pc L W R) (hY : gr_Y b_left b_right b_width L W R) (H : post (bgF L x pc)) : ∀ d p, p + d = pc → wY_beginnings_5 post x (nI pc) g_start g_sets g_states g_conflicts g_ready g_length g_tokens g_stuck g_scanned g_value g_place b_term b_size b_skipped b_left b_right b_width b_op b_constant b_rank b_grouping b_bTerm b_bSize b_bSkipped b_bLeft b_bWidth b_bOp b_bConstant b_follow b_ends b_first b_last b_none b_set b_leads b_apart b_state b_to b_look b_begins b_nullable b_act b_built b_leadTo b_text b_fits b_token b_stack b_worth (d + 1) (bgF L x p) (nI p) := by
  have hpc := hV.1
  intro d
  induction d with
  | zero =>
    intro p hp
    have : p = pc := by omega
    subst this
    exact pk_le p p (fun _ => H) (fun z => absurd z (by omega))
  | succ d ih =>
    intro p hp
    have ih' := ih (p + 1) (by omega)
    unfold bgF at ih'
    have hL := hV.2.2.1 p (by omega)
    refine pk_le pc p (fun z => absurd z (by omega)) (fun _ => br_c (fun c => nm_r (nI_1 p) ?_) (fun c => ⟨vp_in_nI (by omega) (by omega), ?_⟩))
    · have : ¬ nI (L p) = x := by
        intro e
        rw [← e, show (9 : Int32) = nI 9 from rfl, nI_leI (by omega) (by omega)] at c
        omega
      rw [if_neg this] at ih'; exact ih'
    · rw [nI_clamp (show p < 2 ^ 31 by omega), (hY p (by omega)).1, show 4 * nI p = nI (4 * p) from by rw [show (4 : Int32) = nI 4 from rfl, pk_mul]]
      refine br_c (fun c => ?_) (fun c => ?_)
      · rw [if_pos c] at ih'
        exact nm_e (nm_r (nI_1 p) ih')
      · rw [if_neg c] at ih'
        exact nm_r (nI_1 p) ih'
theorem yg_b {post : Int64 → Prop} {x : Int32} (hV : gr_V pc L W R) (hY : gr_Y b_left b_right b_width L W R) (H : post (bgF L x pc)) : wpY_beginnings post (nI pc, g_start, g_sets, g_states, g_conflicts, g_ready, g_length, g_tokens, g_stuck, g_scanned, g_value, g_place, b_term, b_size, b_skipped, b_left, b_right, b_width, b_op, b_constant, b_rank, b_grouping, b_bTerm, b_bSize, b_bSkipped, b_bLeft, b_bWidth, b_bOp, b_bConstant, b_follow, b_ends, b_first, b_last, b_none, b_set, b_leads, b_apart, b_state, b_to, b_look, b_begins, b_nullable, b_act, b_built, b_leadTo, b_text, b_fits, b_token, b_stack, b_worth) x := ⟨pc + 1, yg_5 hV hY H pc 0 (by omega)⟩
theorem yc_14 {post : Int64 → Prop} {J5 : Int64 → Int32 → Prop} {k : Nat} {a : Int64} (hV : gr_V pc L W R) (hY : gr_Y b_left b_right b_width L W R) (H : J5 (rr pc L W R 36 a) (nI (k + 1))) : ∀ d i, i + d = 36 → wY_closure_14 post J5 (nI k) (nI pc) g_start g_sets g_states g_conflicts g_ready g_length g_tokens g_stuck g_scanned g_value g_place b_term b_size b_skipped b_left b_right b_width b_op b_constant b_rank b_grouping b_bTerm b_bSize b_bSkipped b_bLeft b_bWidth b_bOp b_bConstant b_follow b_ends b_first b_last b_none b_set b_leads b_apart b_state b_to b_look b_begins b_nullable b_act b_built b_leadTo b_text b_fits b_token b_stack b_worth (d + 1) (rr pc L W R i a) (nI i) := by
  intro d
  induction d with
  | zero =>
    intro i hi
    have : i = 36 := by omega
    subst this
    exact pk_le 36 36 (fun _ => nm_r (nI_1 k) H) (fun z => absurd z (by omega))
  | succ d ih =>
    intro i hi
    have ih' := ih (i + 1) (by omega)
    rw [rr] at ih'
    refine pk_le 36 i (fun z => absurd z (by omega)) (fun _ => zb_b1 i (fun hb => yy_ (by omega) hV hY (yg_b hV hY (nm_e (nm_r (nI_1 i) ?_)))) (fun hb => nm_r (nI_1 i) ?_))
    · rw [if_pos hb] at ih'; exact ih'
    · rw [if_neg (by rw [hb]; decide)] at ih'; exact ih'
theorem yc_r {post : Int64 → Prop} {J5 : Int64 → Int32 → Prop} {k : Nat} {a : Int64} (hV : gr_V pc L W R) (hY : gr_Y b_left b_right b_width L W R) (H : J5 (rr pc L W R 36 a) (nI (k + 1))) : ∃ n14 : Nat, wY_closure_14 post J5 (nI k) (nI pc) g_start g_sets g_states g_conflicts g_ready g_length g_tokens g_stuck g_scanned g_value g_place b_term b_size b_skipped b_left b_right b_width b_op b_constant b_rank b_grouping b_bTerm b_bSize b_bSkipped b_bLeft b_bWidth b_bOp b_bConstant b_follow b_ends b_first b_last b_none b_set b_leads b_apart b_state b_to b_look b_begins b_nullable b_act b_built b_leadTo b_text b_fits b_token b_stack b_worth n14 a 0 :=
  ⟨37, yc_14 hV hY H 36 0 (by omega)⟩
theorem ycl {post : Int64 → Prop} {a : Int64} (hV : gr_V pc L W R) (hY : gr_Y b_left b_right b_width L W R) (ha : ∀ j, 34 ≤ j → bl a j = false) (H : post (clo pc L W R a)) : wpY_closure post (nI pc, g_start, g_sets, g_states, g_conflicts, g_ready, g_length, g_tokens, g_stuck, g_scanned, g_value, g_place, b_term, b_size, b_skipped, b_left, b_right, b_width, b_op, b_constant, b_rank, b_grouping, b_bTerm, b_bSize, b_bSkipped, b_bLeft, b_bWidth, b_bOp, b_bConstant, b_follow, b_ends, b_first, b_last, b_none, b_set, b_leads, b_apart, b_state, b_to, b_look, b_begins, b_nullable, b_act, b_built, b_leadTo, b_text, b_fits, b_token, b_stack, b_worth) a := by
  rw [← (clo_Y (L := L) (W := W) (R := R) hV.2.2.1 hV.1 ha).1] at H
  refine ⟨5, br_f (by decide) (yc_r (k := 0) hV hY ?_)⟩
  generalize rr pc L W R 36 a = a1 at H
  refine br_f (by decide) (yc_r (k := 1) hV hY ?_)
  generalize rr pc L W R 36 a1 = a2 at H
  refine br_f (by decide) (yc_r (k := 2) hV hY ?_)
  generalize rr pc L W R 36 a2 = a3 at H
  refine br_f (by decide) (yc_r (k := 3) hV hY ?_)
  generalize rr pc L W R 36 a3 = a4 at H
  exact br_t (by decide) H
theorem bh_in {a : Int64} {x : Int32} (hV : gr_V pc L W R) (hx : x ≠ -1) {n j : Nat} (hn : n ≤ 36) (h : bl (bhF W R a x n) j = true) : j < 34 ∧ j % 4 ≠ 0 := by
  obtain ⟨i, hi, h1, h2, rfl⟩ := (bh_b n hn).mp h
  unfold nxt at h2
  by_cases c : i % 4 < W (i / 4)
  · have hw := (hV.2.1 (i / 4)).2.1
    have h8 := hV.2.2.2.2.1
    by_cases e : i / 4 = 8
    · rw [e, h8] at c; omega
    · omega
  · rw [if_neg c] at h2; exact absurd h2.symm hx
theorem bh_s {a : Int64} {x : Int32} {i : Nat} : bhF W R a x (i + 1) = if bl a i = true ∧ nxt W R i = x then bhF W R a x i ||| ((1 : Int64) <<< ((nI (i + 1)).toInt64 &&& 63)) else bhF W R a x i := rfl
theorem bh_36 {a : Int64} {x : Int32} (ha : ∀ j, 34 ≤ j → bl a j = false) : bhF W R a x 36 = bhF W R a x 34 := by
  have h1 : bhF W R a x (34 + 1) = bhF W R a x 34 := by
    rw [bh_s, if_neg (fun z => by rw [ha 34 (by omega)] at z; exact absurd z.1 (by decide))]
  have h2 : bhF W R a x (34 + 1 + 1) = bhF W R a x 34 := by
    rw [bh_s, if_neg (fun z => by rw [ha 35 (by omega)] at z; exact absurd z.1 (by decide)), h1]
  exact h2
theorem yi_6 {post : Int64 → Prop} {a : Int64} {x : Int32} (hV : gr_V pc L W R) (hY : gr_Y b_left b_right b_width L W R) (hx : x ≠ -1) (ha : ∀ j, 34 ≤ j → bl a j = false) (H : post (clo pc L W R (bhF W R a x 34))) : ∀ d i, i + d = 36 → wY_behind_6 post a x (nI pc) g_start g_sets g_states g_conflicts g_ready g_length g_tokens g_stuck g_scanned g_value g_place b_term b_size b_skipped b_left b_right b_width b_op b_constant b_rank b_grouping b_bTerm b_bSize b_bSkipped b_bLeft b_bWidth b_bOp b_bConstant b_follow b_ends b_first b_last b_none b_set b_leads b_apart b_state b_to b_look b_begins b_nullable b_act b_built b_leadTo b_text b_fits b_token b_stack b_worth (d + 1) (bhF W R a x i) (nI i) := by
  intro d
  induction d with
  | zero =>
    intro i hi
    have : i = 36 := by omega
    subst this
    rw [bh_36 ha]
    refine pk_le 36 36 (fun _ => ycl hV hY (fun j hj => ?_) H) (fun z => absurd z (by omega))
    cases z : bl (bhF W R a x 34) j with
    | false => rfl
    | true => have := bh_in hV hx (by omega) z; omega
  | succ d ih =>
    intro i hi
    have ih' := ih (i + 1) (by omega)
    rw [bhF] at ih'
    refine pk_le 36 i (fun z => absurd z (by omega)) (fun _ => zb_b1 i (fun hb => yy_ (by omega) hV hY (br_c (fun c => ?_) (fun c => nm_r (nI_1 i) ?_))) (fun hb => nm_r (nI_1 i) ?_))
    · rw [if_pos ⟨hb, c⟩] at ih'
      rw [nI_1 i]
      exact nm_e (nm_e ih')
    · rw [if_neg (fun z => c z.2)] at ih'; exact ih'
    · rw [if_neg (fun z => by rw [hb] at z; exact absurd z.1 (by decide))] at ih'; exact ih'
theorem yib {post : Int64 → Prop} {a : Int64} {x : Int32} (hV : gr_V pc L W R) (hY : gr_Y b_left b_right b_width L W R) (hx : x ≠ -1) (ha : ∀ j, 34 ≤ j → bl a j = false) (H : post (clo pc L W R (bhF W R a x 34))) : wpY_behind post (nI pc, g_start, g_sets, g_states, g_conflicts, g_ready, g_length, g_tokens, g_stuck, g_scanned, g_value, g_place, b_term, b_size, b_skipped, b_left, b_right, b_width, b_op, b_constant, b_rank, b_grouping, b_bTerm, b_bSize, b_bSkipped, b_bLeft, b_bWidth, b_bOp, b_bConstant, b_follow, b_ends, b_first, b_last, b_none, b_set, b_leads, b_apart, b_state, b_to, b_look, b_begins, b_nullable, b_act, b_built, b_leadTo, b_text, b_fits, b_token, b_stack, b_worth) a x := ⟨37, yi_6 hV hY hx ha H 36 0 (by omega)⟩
end
end
section
/-! the parser's states -/
def sc (c : Nat) : Nat := if c < 4 then c else c + 6
def trS (pc : Nat) (L W : Nat → Nat) (R : Nat → Nat → Nat) (_ : Nat) (v : Int64) (c : Nat) : Int64 := clo pc L W R (bhF W R v (nI (sc c)) 34)
def st0 (pc : Nat) (L W : Nat → Nat) (R : Nat → Nat → Nat) : Int64 := clo pc L W R 4294967296
theorem sc_c {c : Nat} (h : c < 7) : sym (sc c) ∧ col (sc c) = c := by
  unfold sc sym col
  by_cases z : c < 4
  · rw [if_pos z, if_pos z]; exact ⟨Or.inl z, rfl⟩
  · rw [if_neg z, if_neg (by omega)]; exact ⟨Or.inr (by omega), by omega⟩
theorem col_s {x : Nat} (h : sym x) : col x < 7 ∧ sc (col x) = x := by
  unfold sc col
  rcases h with h | h
  · rw [if_pos h]; exact ⟨by omega, if_pos h⟩
  · rw [if_neg (by omega), if_neg (by omega)]; exact ⟨by omega, by omega⟩
section
variable {pc : Nat} {L W : Nat → Nat} {R : Nat → Nat → Nat}
theorem tr34 (hV : gr_V pc L W R) {v : Int64} {x : Nat} (hx : x < 2 ^ 31) {j : Nat} (hj : 34 ≤ j) : bl (clo pc L W R (bhF W R v (nI x) 34)) j = false := by
  refine (clo_Y hV.2.2.1 hV.1 (fun j hj => ?_)).2 j hj
  cases z : bl (bhF W R v (nI x) 34) j with
  | false => rfl
  | true => have := bh_in hV (zn_ne1 hx) (by omega) z; omega
theorem b32 : ∀ j, bl 4294967296 j = true ↔ j = 32 := by
  intro j
  by_cases c : j < 64
  · have : ∀ j, j < 64 → (bl 4294967296 j = true ↔ j = 32) := by decide +kernel
    exact this j c
  · rw [zb_big (by omega)]; exact ⟨fun h => absurd h (by decide), fun h => by omega⟩
theorem st0_34 (hV : gr_V pc L W R) {j : Nat} (hj : 34 ≤ j) : bl (st0 pc L W R) j = false := by
  refine (clo_Y hV.2.2.1 hV.1 (fun j hj => ?_)).2 j hj
  cases z : bl 4294967296 j with
  | false => rfl
  | true => have := (b32 j).mp z; omega
/-- all states' items are below 34 -/
theorem st34 (hV : gr_V pc L W R) {s l : Nat} {b : Nat × (Nat → Int64) × (Nat → Int32)} (h : BI 40 7 (trS pc L W R) s l b) (h0 : b.2.1 0 = st0 pc L W R) {k : Nat} (hk : k < b.1) {j : Nat} (hj : 34 ≤ j) : bl (b.2.1 k) j = false := by
  by_cases z : k = 0
  · subst z; rw [h0]; exact st0_34 hV hj
  · obtain ⟨-, p, m, -, hm, e⟩ := h.2.2.2 k (by omega) hk
    rw [e]
    have : sc m < 2 ^ 31 := by unfold sc; split <;> omega
    exact tr34 hV this hj
/-- no step behind other symbols -/
theorem bh_no (hV : gr_V pc L W R) {v : Int64} {x : Nat} (hx : ¬ sym x) (hx' : x < 2 ^ 31) : clo pc L W R (bhF W R v (nI x) 34) = 0 := by
  have : bhF W R v (nI x) 34 = 0 := by
    apply zb_ext
    intro j _
    rw [zb_0]
    cases z : bl (bhF W R v (nI x) 34) j with
    | false => rfl
    | true =>
      obtain ⟨i, hi, _, h2, _⟩ := (bh_b 34 (by omega)).mp z
      exfalso
      unfold nxt at h2
      by_cases c : i % 4 < W (i / 4)
      · rw [if_pos c] at h2
        have := (hV.2.1 (i / 4)).2.2 _ c
        have e := zn_inj (by rcases this with h | h <;> omega) hx' h2
        rw [e] at this
        exact hx this
      · rw [if_neg c] at h2
        exact absurd h2.symm (zn_ne1 hx')
  rw [this, clo_0]
end
section
variable {g_productions : Int32} {g_start : Int64} {g_sets g_states g_conflicts g_ready g_length g_tokens g_stuck g_scanned g_value g_place : Int32} {b_term b_size b_skipped b_left b_right b_width b_op b_constant b_rank b_grouping b_bTerm b_bSize b_bSkipped b_bLeft b_bWidth b_bOp b_bConstant : Nat → Int32} {b_follow b_ends b_first b_last : Nat → Int64} {b_none : Nat → Int32} {b_set : Nat → Int64} {b_leads b_apart : Nat → Int32} {b_state : Nat → Int64} {b_to b_look b_begins b_nullable b_act b_built b_leadTo b_text b_fits b_token b_stack b_worth : Nat → Int32} {post : Int32 → SY → Prop} {J20 J30 : Int32 → Int32 → (Nat → Int32) → (Nat → Int32) → (Nat → Int32) → (Nat → Int32) → (Nat → Int32) → (Nat → Int32) → (Nat → Int32) → (Nat → Int32) → (Nat → Int32) → (Nat → Int32) → (Nat → Int32) → (Nat → Int32) → (Nat → Int32) → (Nat → Int32) → (Nat → Int32) → (Nat → Int32) → (Nat → Int32) → (Nat → Int64) → (Nat → Int64) → (Nat → Int64) → (Nat → Int64) → (Nat → Int32) → (Nat → Int64) → (Nat → Int32) → (Nat → Int32) → (Nat → Int64) → (Nat → Int32) → (Nat → Int32) → (Nat → Int32) → (Nat → Int32) → (Nat → Int32) → (Nat → Int32) → (Nat → Int32) → (Nat → Int32) → (Nat → Int32) → (Nat → Int32) → (Nat → Int32) → (Nat → Int32) → Prop} {pc : Nat} {L W : Nat → Nat} {R : Nat → Nat → Nat}
theorem ytr_63 {x1 x2 : Int32} {v : Int64} {c : Nat} (hc : c ≤ 40) (H : ∀ k, k ≤ c → (v ≠ 0 → k = fnd b_state v c) → wY_listStates_90 post J20 J30 x1 x2 v (nI k) g_productions g_start g_sets (nI c) g_conflicts g_ready g_length g_tokens g_stuck g_scanned g_value g_place b_term b_size b_skipped b_left b_right b_width b_op b_constant b_rank b_grouping b_bTerm b_bSize b_bSkipped b_bLeft b_bWidth b_bOp b_bConstant b_follow b_ends b_first b_last b_none b_set b_leads b_apart b_state b_to b_look b_begins b_nullable b_act b_built b_leadTo b_text b_fits b_token b_stack b_worth) :
    ∀ d k, k + d = c → (v ≠ 0 → ∀ j, j < k → b_state j ≠ v) → wY_listStates_63 post J20 J30 x1 x2 v g_productions g_start g_sets (nI c) g_conflicts g_ready g_length g_tokens g_stuck g_scanned g_value g_place b_term b_size b_skipped b_left b_right b_width b_op b_constant b_rank b_grouping b_bTerm b_bSize b_bSkipped b_bLeft b_bWidth b_bOp b_bConstant b_follow b_ends b_first b_last b_none b_set b_leads b_apart b_state b_to b_look b_begins b_nullable b_act b_built b_leadTo b_text b_fits b_token b_stack b_worth (d + 1) (nI k) := by
  intro d
  induction d with
  | zero =>
    intro k hk h
    have : k = c := by omega
    subst this
    exact pk_le k k (fun _ => H k (Nat.le_refl _) (fun hv => (fnd_u (Nat.le_refl _) (h hv) (fun z => absurd z (by omega))).symm)) (fun z => absurd z (by omega))
  | succ d ih =>
    intro k hk h
    refine pk_le c k (fun z => absurd z (by omega)) (fun _ => ⟨vp_in_nI (by omega) (by omega), ?_⟩)
    rw [nI_clamp (show k < 2 ^ 31 by omega)]
    by_cases e : b_state k = v
    · exact br_t e (H k (by omega) (fun hv => (fnd_u (by omega) (h hv) (fun _ => e)).symm))
    · refine br_f e (nm_r (nI_1 k) (ih (k + 1) (by omega) (fun hv j hj => ?_)))
      by_cases z : j = k
      · subst z; exact e
      · exact h hv j (by omega)
theorem yst_30 (hV : gr_V pc L W R) (hY : gr_Y b_left b_right b_width L W R) {s : Nat} {b0 : Nat × (Nat → Int64) × (Nat → Int32)} (hs40 : s < 40) (hb34 : ∀ j, 34 ≤ j → bl (b0.2.1 s) j = false)
    (Hn : row 40 7 (trS pc L W R s (b0.2.1 s)) s b0 7 = none → ∀ b : Nat × (Nat → Int64) × (Nat → Int32), post 0 (nI pc, g_start, g_sets, nI b.1, g_conflicts, g_ready, g_length, g_tokens, g_stuck, g_scanned, g_value, g_place, b_term, b_size, b_skipped, b_left, b_right, b_width, b_op, b_constant, b_rank, b_grouping, b_bTerm, b_bSize, b_bSkipped, b_bLeft, b_bWidth, b_bOp, b_bConstant, b_follow, b_ends, b_first, b_last, b_none, b_set, b_leads, b_apart, b.2.1, b.2.2, b_look, b_begins, b_nullable, b_act, b_built, b_leadTo, b_text, b_fits, b_token, b_stack, b_worth))
    (Hs : ∀ b, row 40 7 (trS pc L W R s (b0.2.1 s)) s b0 7 = some b → J20 (nI (s + 1)) (nI b.1) b_term b_size b_skipped b_left b_right b_width b_op b_constant b_rank b_grouping b_bTerm b_bSize b_bSkipped b_bLeft b_bWidth b_bOp b_bConstant b_follow b_ends b_first b_last b_none b_set b_leads b_apart b.2.1 b.2.2 b_look b_begins b_nullable b_act b_built b_leadTo b_text b_fits b_token b_stack b_worth) :
    ∀ d l b, l + d = 7 → row 40 7 (trS pc L W R s (b0.2.1 s)) s b0 l = some b → b.1 ≤ 40 → s < b.1 → b.2.1 s = b0.2.1 s →
      wY_listStates_30 post J20 (nI s) (nI pc) g_start g_sets g_conflicts g_ready g_length g_tokens g_stuck g_scanned g_value g_place (d + 1) (nI l) (nI b.1) b_term b_size b_skipped b_left b_right b_width b_op b_constant b_rank b_grouping b_bTerm b_bSize b_bSkipped b_bLeft b_bWidth b_bOp b_bConstant b_follow b_ends b_first b_last b_none b_set b_leads b_apart b.2.1 b.2.2 b_look b_begins b_nullable b_act b_built b_leadTo b_text b_fits b_token b_stack b_worth := by
  intro d
  induction d with
  | zero =>
    intro l b hl hr g2 g3 g4
    have : l = 7 := by omega
    subst this
    exact pk_le 7 7 (fun _ => nm_r (nI_1 s) (Hs b hr)) (fun z => absurd z (by omega))
  | succ d ih =>
    intro l b hl hr g2 g3 g4
    have hrow : row 40 7 (trS pc L W R s (b0.2.1 s)) s b0 (l + 1) = cel 40 (7 * s + l) (trS pc L W R s (b0.2.1 s) l) b := by
      show (row 40 7 (trS pc L W R s (b0.2.1 s)) s b0 l).bind _ = _
      rw [hr]; rfl
    have e7 : 7 * nI s + nI l = nI (7 * s + l) := by rw [show (7 : Int32) = nI 7 from rfl, pk_mul, nI_add]
    have i7 : vp_in (nI (7 * s + l)) 287 := vp_in_nI (by omega) (by omega)
    have next : ∀ b', cel 40 (7 * s + l) (trS pc L W R s (b0.2.1 s) l) b = some b' → wY_listStates_30 post J20 (nI s) (nI pc) g_start g_sets g_conflicts g_ready g_length g_tokens g_stuck g_scanned g_value g_place (d + 1) (nI (l + 1)) (nI b'.1) b_term b_size b_skipped b_left b_right b_width b_op b_constant b_rank b_grouping b_bTerm b_bSize b_bSkipped b_bLeft b_bWidth b_bOp b_bConstant b_follow b_ends b_first b_last b_none b_set b_leads b_apart (b'.2.1) (b'.2.2) b_look b_begins b_nullable b_act b_built b_leadTo b_text b_fits b_token b_stack b_worth := by
      intro b' hb'
      obtain ⟨c1, c2, c3, -⟩ := cel_c g2 hb'
      exact ih (l + 1) b' (by omega) (hrow.trans hb') c2 (by omega) (by rw [c3 s g3]; exact g4)
    have w56 : ∀ x : Int32, x = nI (sc l) → wY_listStates_56 post J20 (wY_listStates_30 post J20 (nI s) (nI pc) g_start g_sets g_conflicts g_ready g_length g_tokens g_stuck g_scanned g_value g_place (d + 1)) (nI s) (nI l) x (b.2.1 s) (nI pc) g_start g_sets (nI b.1) g_conflicts g_ready g_length g_tokens g_stuck g_scanned g_value g_place b_term b_size b_skipped b_left b_right b_width b_op b_constant b_rank b_grouping b_bTerm b_bSize b_bSkipped b_bLeft b_bWidth b_bOp b_bConstant b_follow b_ends b_first b_last b_none b_set b_leads b_apart b.2.1 b.2.2 b_look b_begins b_nullable b_act b_built b_leadTo b_text b_fits b_token b_stack b_worth := by
      intro x hx
      subst hx
      have hsl : sc l < 2 ^ 31 := by unfold sc; split <;> omega
      rw [g4]
      refine yib hV hY (zn_ne1 hsl) hb34 ?_
      change ∃ n63 : Nat, wY_listStates_63 post J20 (wY_listStates_30 post J20 (nI s) (nI pc) g_start g_sets g_conflicts g_ready g_length g_tokens g_stuck g_scanned g_value g_place (d + 1)) (nI s) (nI l) (trS pc L W R s (b0.2.1 s) l) (nI pc) g_start g_sets (nI b.1) g_conflicts g_ready g_length g_tokens g_stuck g_scanned g_value g_place b_term b_size b_skipped b_left b_right b_width b_op b_constant b_rank b_grouping b_bTerm b_bSize b_bSkipped b_bLeft b_bWidth b_bOp b_bConstant b_follow b_ends b_first b_last b_none b_set b_leads b_apart b.2.1 b.2.2 b_look b_begins b_nullable b_act b_built b_leadTo b_text b_fits b_token b_stack b_worth n63 0
      generalize trS pc L W R s (b0.2.1 s) l = v at hrow next
      refine ⟨b.1 + 1, ytr_63 (b_state := b.2.1) (c := b.1) g2 (fun k hk hkv => ?_) b.1 0 (by omega) (fun _ j hj => absurd hj (Nat.not_lt_zero _))⟩
      by_cases v0 : v = 0
      · refine br_t v0 (br_t v0 ?_)
        rw [e7, nI_clamp (by omega)]
        refine ⟨i7, nm_e (nm_r (nI_1 l) (next (b.1, b.2.1, upd b.2.2 (7 * s + l) (-1)) ?_))⟩
        unfold cel; rw [if_pos v0]
      · have ek := hkv v0
        obtain ⟨f1, f2, f3⟩ := fnd_s b.2.1 v b.1
        refine br_f v0 (pk_eq k b.1 (fun e => pk_eq b.1 40 (fun e40 => ?_) (fun n40 => nm_r (nI_1 b.1) ?_)) (fun n => br_f v0 ?_))
        · have : cel 40 (7 * s + l) v b = none := by
            unfold cel; rw [if_neg v0, if_pos (by omega)]
          rw [this] at hrow
          have h4 := row_n hrow (6 - l)
          rw [show l + 1 + (6 - l) = 7 by omega] at h4
          exact Hn h4 b
        · rw [nI_clamp (show b.1 < 2 ^ 31 by omega)]
          refine ⟨vp_in_nI (by omega) (by omega), nm_e (br_f v0 ?_)⟩
          rw [e7, nI_clamp (show 7 * s + l < 2 ^ 31 by omega), e]
          refine ⟨i7, nm_e (nm_r (nI_1 l) (next (b.1 + 1, vp_updL b.2.1 b.1 v, upd b.2.2 (7 * s + l) (nI b.1)) ?_))⟩
          unfold cel; rw [if_neg v0, if_neg (by omega), if_pos (by omega)]
        · rw [e7, nI_clamp (show 7 * s + l < 2 ^ 31 by omega)]
          refine ⟨i7, nm_e (nm_r (nI_1 l) (next (b.1, b.2.1, upd b.2.2 (7 * s + l) (nI k)) ?_))⟩
          unfold cel; rw [if_neg v0, if_neg (by omega), if_neg (by omega), ← ek]
    refine pk_le 7 l (fun z => absurd z (by omega)) (fun _ => ⟨vp_in_nI (by omega) (by omega), ?_⟩)
    rw [nI_clamp (show s < 2 ^ 31 by omega)]
    refine pk_le 4 l (fun c => w56 _ ?_) (fun c => w56 _ ?_)
    · unfold sc; rw [if_neg (by omega)]; exact nI_add l 6
    · unfold sc; rw [if_pos c]
theorem yst_20 (hV : gr_V pc L W R) (hY : gr_Y b_left b_right b_width L W R) {b0 : Nat × (Nat → Int64) × (Nat → Int32)} (h1 : b0.1 = 1) (h00 : b0.2.1 0 = st0 pc L W R)
    (Hn : bf 40 7 (trS pc L W R) b0 40 = none → ∀ b : Nat × (Nat → Int64) × (Nat → Int32), post 0 (nI pc, g_start, g_sets, nI b.1, g_conflicts, g_ready, g_length, g_tokens, g_stuck, g_scanned, g_value, g_place, b_term, b_size, b_skipped, b_left, b_right, b_width, b_op, b_constant, b_rank, b_grouping, b_bTerm, b_bSize, b_bSkipped, b_bLeft, b_bWidth, b_bOp, b_bConstant, b_follow, b_ends, b_first, b_last, b_none, b_set, b_leads, b_apart, b.2.1, b.2.2, b_look, b_begins, b_nullable, b_act, b_built, b_leadTo, b_text, b_fits, b_token, b_stack, b_worth))
    (Hs : ∀ b, bf 40 7 (trS pc L W R) b0 40 = some b → post 1 (nI pc, g_start, g_sets, nI b.1, g_conflicts, g_ready, g_length, g_tokens, g_stuck, g_scanned, g_value, g_place, b_term, b_size, b_skipped, b_left, b_right, b_width, b_op, b_constant, b_rank, b_grouping, b_bTerm, b_bSize, b_bSkipped, b_bLeft, b_bWidth, b_bOp, b_bConstant, b_follow, b_ends, b_first, b_last, b_none, b_set, b_leads, b_apart, b.2.1, b.2.2, b_look, b_begins, b_nullable, b_act, b_built, b_leadTo, b_text, b_fits, b_token, b_stack, b_worth)) :
    ∀ d s b, s + d = 40 → bf 40 7 (trS pc L W R) b0 s = some b →
      wY_listStates_20 post (nI pc) g_start g_sets g_conflicts g_ready g_length g_tokens g_stuck g_scanned g_value g_place (d + 1) (nI s) (nI b.1) b_term b_size b_skipped b_left b_right b_width b_op b_constant b_rank b_grouping b_bTerm b_bSize b_bSkipped b_bLeft b_bWidth b_bOp b_bConstant b_follow b_ends b_first b_last b_none b_set b_leads b_apart b.2.1 b.2.2 b_look b_begins b_nullable b_act b_built b_leadTo b_text b_fits b_token b_stack b_worth := by
  intro d
  induction d with
  | zero =>
    intro s b hs hb
    have : s = 40 := by omega
    subst this
    obtain ⟨⟨i1, i2, -⟩, -⟩ := bf_i h1 (by omega) 40 b hb
    exact pk_le b.1 40 (fun _ => Hs b hb) (fun z => absurd z (by omega))
  | succ d ih =>
    intro s b hs hb
    obtain ⟨i0, i4⟩ := bf_i h1 (by omega) s b hb
    obtain ⟨i1, i2, i3⟩ := id i0
    rw [h00] at i4
    refine pk_le b.1 s (fun z => ?_) (fun z => ?_)
    · have := bf_e hb z (40 - s)
      rw [show s + (40 - s) = 40 by omega] at this
      exact Hs b this
    · have hstep : bf 40 7 (trS pc L W R) b0 (s + 1) = row 40 7 (trS pc L W R s (b.2.1 s)) s b 7 := by
        show (bf 40 7 (trS pc L W R) b0 s).bind _ = _
        rw [hb]
        show (if s < b.1 then _ else _) = _
        rw [if_pos z]
      refine ⟨8, yst_30 hV hY (b0 := b) (by omega) (fun j hj => st34 hV i0 i4 z hj) (fun hn b' => ?_) (fun b' hb' => ?_) 7 0 b (by omega) rfl i2 z rfl⟩
      · rw [hn] at hstep
        have := bf_n hstep (39 - s)
        rw [show s + 1 + (39 - s) = 40 by omega] at this
        exact Hn this b'
      · rw [hb'] at hstep
        exact ih (s + 1) b' (by omega) hstep
theorem y_states (hV : gr_V pc L W R) (hY : gr_Y b_left b_right b_width L W R)
    (Hn : bf 40 7 (trS pc L W R) (1, vp_updL b_state 0 (st0 pc L W R), b_to) 40 = none → ∀ b : Nat × (Nat → Int64) × (Nat → Int32), post 0 (nI pc, g_start, g_sets, nI b.1, g_conflicts, g_ready, g_length, g_tokens, g_stuck, g_scanned, g_value, g_place, b_term, b_size, b_skipped, b_left, b_right, b_width, b_op, b_constant, b_rank, b_grouping, b_bTerm, b_bSize, b_bSkipped, b_bLeft, b_bWidth, b_bOp, b_bConstant, b_follow, b_ends, b_first, b_last, b_none, b_set, b_leads, b_apart, b.2.1, b.2.2, b_look, b_begins, b_nullable, b_act, b_built, b_leadTo, b_text, b_fits, b_token, b_stack, b_worth))
    (Hs : ∀ b, bf 40 7 (trS pc L W R) (1, vp_updL b_state 0 (st0 pc L W R), b_to) 40 = some b → post 1 (nI pc, g_start, g_sets, nI b.1, g_conflicts, g_ready, g_length, g_tokens, g_stuck, g_scanned, g_value, g_place, b_term, b_size, b_skipped, b_left, b_right, b_width, b_op, b_constant, b_rank, b_grouping, b_bTerm, b_bSize, b_bSkipped, b_bLeft, b_bWidth, b_bOp, b_bConstant, b_follow, b_ends, b_first, b_last, b_none, b_set, b_leads, b_apart, b.2.1, b.2.2, b_look, b_begins, b_nullable, b_act, b_built, b_leadTo, b_text, b_fits, b_token, b_stack, b_worth)) : wpY_listStates post (nI pc, g_start, g_sets, g_states, g_conflicts, g_ready, g_length, g_tokens, g_stuck, g_scanned, g_value, g_place, b_term, b_size, b_skipped, b_left, b_right, b_width, b_op, b_constant, b_rank, b_grouping, b_bTerm, b_bSize, b_bSkipped, b_bLeft, b_bWidth, b_bOp, b_bConstant, b_follow, b_ends, b_first, b_last, b_none, b_set, b_leads, b_apart, b_state, b_to, b_look, b_begins, b_nullable, b_act, b_built, b_leadTo, b_text, b_fits, b_token, b_stack, b_worth) := by
  refine ycl hV hY (fun j hj => ?_) (nm_e ⟨41, yst_20 hV hY (b0 := (1, vp_updL b_state 0 (st0 pc L W R), b_to)) rfl (show vp_updL b_state 0 (st0 pc L W R) 0 = _ from ul_s) Hn Hs 40 0 _ (by omega) rfl⟩)
  cases z : bl 4294967296 j with
  | false => rfl
  | true => have := (b32 j).mp z; omega
end
section
variable {f_productionCount f_textLength f_anythingBuilt f_tokenCount f_parseValue f_parsePlace : Int32} {a_ruleTerms a_ruleLengths a_skips a_grammar a_ranks a_groupings a_text a_heads a_tails a_empties a_placeLetters a_followers a_ruleEnds : Nat → Int32} {a_sets : Nat → Int64} {a_steps a_classes a_finerClasses : Nat → Int32} {a_states : Nat → Int64} {a_moves a_begins a_lookaheads a_builtCounts a_builtSteps a_builtMatches a_builtSkips a_builtGrammar a_builtMoves a_builtActions a_tokenRules a_tokenBegins a_tokenEnds a_stackStates a_stackValues : Nat → Int32} {pc : Nat} {L W : Nat → Nat} {R : Nat → Nat → Nat}
theorem xso_3 {post : Int32 → Prop} {v : Int64} {c : Nat} (hc : c ≤ 40) (H : post (nI (fnd a_states v c))) : ∀ d k, k + d = c → (∀ j, j < k → a_states j ≠ v) → wX_slotOf__states_3 post v (nI c) f_productionCount f_textLength f_anythingBuilt f_tokenCount f_parseValue f_parsePlace a_ruleTerms a_ruleLengths a_skips a_grammar a_ranks a_groupings a_text a_heads a_tails a_empties a_placeLetters a_followers a_ruleEnds a_sets a_steps a_classes a_finerClasses a_states a_moves a_begins a_lookaheads a_builtCounts a_builtSteps a_builtMatches a_builtSkips a_builtGrammar a_builtMoves a_builtActions a_tokenRules a_tokenBegins a_tokenEnds a_stackStates a_stackValues (d + 1) (nI k) := by
  intro d
  induction d with
  | zero =>
    intro k hk h
    have : k = c := by omega
    subst this
    have e := fnd_u (Nat.le_refl k) h (fun z => absurd z (by omega))
    rw [e] at H
    exact pk_le 40 k (fun _ => H) (fun _ => pk_le k k (fun _ => H) (fun z => absurd z (by omega)))
  | succ d ih =>
    intro k hk h
    refine pk_le 40 k (fun z => absurd z (by omega)) (fun _ => pk_le c k (fun z => absurd z (by omega)) (fun _ => ⟨vp_in_nI (by omega) (by omega), ?_⟩))
    rw [nI_clamp (show k < 2 ^ 31 by omega)]
    by_cases e : a_states k = v
    · rw [fnd_u (show k ≤ c by omega) h (fun _ => e)] at H
      exact br_t e H
    · refine br_f e (nm_r (nI_1 k) (ih (k + 1) (by omega) (fun j hj => ?_)))
      by_cases z : j = k
      · subst z; exact e
      · exact h j (by omega)
theorem xso_ {post : Int32 → Prop} {v : Int64} {c : Nat} (hc : c ≤ 40) (H : post (nI (fnd a_states v c))) : wpX_slotOf__states post (f_productionCount, f_textLength, f_anythingBuilt, f_tokenCount, f_parseValue, f_parsePlace, a_ruleTerms, a_ruleLengths, a_skips, a_grammar, a_ranks, a_groupings, a_text, a_heads, a_tails, a_empties, a_placeLetters, a_followers, a_ruleEnds, a_sets, a_steps, a_classes, a_finerClasses, a_states, a_moves, a_begins, a_lookaheads, a_builtCounts, a_builtSteps, a_builtMatches, a_builtSkips, a_builtGrammar, a_builtMoves, a_builtActions, a_tokenRules, a_tokenBegins, a_tokenEnds, a_stackStates, a_stackValues) v (nI c) := ⟨c + 1, xso_3 hc H c 0 (by omega) (fun j hj => absurd hj (Nat.not_lt_zero _))⟩
/-- states and moves listed so far, on both sides -/
def SS (s l : Nat) (b : Nat × (Nat → Int64) × (Nat → Int32)) (sx : Nat → Int64) (mx : Nat → Int32) : Prop :=
  (∀ k, k < b.1 → sx k = b.2.1 k) ∧ ∀ p x, x < 13 → (p < s ∨ (p = s ∧ x < l)) → (sym x → mx (13 * p + x) = b.2.2 (7 * p + col x)) ∧ (¬ sym x → mx (13 * p + x) = -1)
def kap (l : Nat) : Nat := if l ≤ 4 then l else if l ≤ 10 then 4 else l - 6
theorem xst_30 {post : Int32 → SX → Prop} {J17 : Int32 → Int32 → (Nat → Int32) → (Nat → Int32) → (Nat → Int32) → (Nat → Int32) → (Nat → Int32) → (Nat → Int32) → (Nat → Int32) → (Nat → Int32) → (Nat → Int32) → (Nat → Int32) → (Nat → Int32) → (Nat → Int32) → (Nat → Int32) → (Nat → Int64) → (Nat → Int32) → (Nat → Int32) → (Nat → Int32) → (Nat → Int64) → (Nat → Int32) → (Nat → Int32) → (Nat → Int32) → (Nat → Int32) → (Nat → Int32) → (Nat → Int32) → (Nat → Int32) → (Nat → Int32) → (Nat → Int32) → (Nat → Int32) → (Nat → Int32) → (Nat → Int32) → (Nat → Int32) → (Nat → Int32) → (Nat → Int32) → Prop} (hV : gr_V pc L W R) (hX : gr_X a_grammar L W R) {s : Nat} {b0 : Nat × (Nat → Int64) × (Nat → Int32)} (hs40 : s < 40)
    (Hn : row 40 7 (trS pc L W R s (b0.2.1 s)) s b0 7 = none → ∀ (sx : Nat → Int64) (mx : Nat → Int32), post (-1) (nI pc, f_textLength, f_anythingBuilt, f_tokenCount, f_parseValue, f_parsePlace, a_ruleTerms, a_ruleLengths, a_skips, a_grammar, a_ranks, a_groupings, a_text, a_heads, a_tails, a_empties, a_placeLetters, a_followers, a_ruleEnds, a_sets, a_steps, a_classes, a_finerClasses, sx, mx, a_begins, a_lookaheads, a_builtCounts, a_builtSteps, a_builtMatches, a_builtSkips, a_builtGrammar, a_builtMoves, a_builtActions, a_tokenRules, a_tokenBegins, a_tokenEnds, a_stackStates, a_stackValues))
    (Hs : ∀ b (sx : Nat → Int64) (mx : Nat → Int32), row 40 7 (trS pc L W R s (b0.2.1 s)) s b0 7 = some b → SS (s + 1) 0 b sx mx → J17 (nI b.1) (nI (s + 1)) a_ruleTerms a_ruleLengths a_skips a_grammar a_ranks a_groupings a_text a_heads a_tails a_empties a_placeLetters a_followers a_ruleEnds a_sets a_steps a_classes a_finerClasses sx mx a_begins a_lookaheads a_builtCounts a_builtSteps a_builtMatches a_builtSkips a_builtGrammar a_builtMoves a_builtActions a_tokenRules a_tokenBegins a_tokenEnds a_stackStates a_stackValues) :
    ∀ d l b (sx : Nat → Int64) (mx : Nat → Int32), l + d = 13 → row 40 7 (trS pc L W R s (b0.2.1 s)) s b0 (kap l) = some b → b.1 ≤ 40 → s < b.1 → b.2.1 s = b0.2.1 s → SS s l b sx mx →
      wX_findStates_30 post J17 (nI s) (nI pc) f_textLength f_anythingBuilt f_tokenCount f_parseValue f_parsePlace (d + 1) (nI b.1) (nI l) a_ruleTerms a_ruleLengths a_skips a_grammar a_ranks a_groupings a_text a_heads a_tails a_empties a_placeLetters a_followers a_ruleEnds a_sets a_steps a_classes a_finerClasses sx mx a_begins a_lookaheads a_builtCounts a_builtSteps a_builtMatches a_builtSkips a_builtGrammar a_builtMoves a_builtActions a_tokenRules a_tokenBegins a_tokenEnds a_stackStates a_stackValues := by
  intro d
  induction d with
  | zero =>
    intro l b sx mx hl hr g2 g3 g4 h
    have : l = 13 := by omega
    subst this
    refine pk_le 13 13 (fun _ => nm_r (nI_1 s) (Hs b sx mx hr ⟨h.1, fun p x hx hd => h.2 p x hx ?_⟩)) (fun z => absurd z (by omega))
    rcases hd with hd | hd
    · by_cases e : p = s
      · exact Or.inr ⟨e, hx⟩
      · exact Or.inl (by omega)
    · omega
  | succ d ih =>
    intro l b sx mx hl hr g2 g3 g4 h
    obtain ⟨k1, k2⟩ := h
    have e13 : nI s * 13 + nI l = nI (13 * s + l) := by rw [show (13 : Int32) = nI 13 from rfl, pk_mul, nI_add]; congr 1; omega
    have i13 : vp_in (nI (13 * s + l)) 520 := vp_in_nI (by omega) (by omega)
    refine pk_le 13 l (fun z => absurd z (by omega)) (fun _ => ⟨vp_in_nI (by omega) (by omega), ?_⟩)
    rw [nI_clamp (show s < 2 ^ 31 by omega), k1 s g3, g4]
    refine xib hV hX ?_
    by_cases hsy : sym l
    · obtain ⟨hc7, hsc⟩ := col_s hsy
      have hk1 : kap l = col l := by
        unfold kap col
        rcases hsy with h | h
        · rw [if_pos (by omega), if_pos h]
        · rw [if_neg (by omega), if_neg (show ¬ l < 4 by omega)]
          by_cases c : l ≤ 10
          · rw [if_pos c]; omega
          · rw [if_neg c]
      have hk2 : kap (l + 1) = col l + 1 := by
        unfold kap col
        rcases hsy with h | h
        · rw [if_pos (by omega), if_pos h]
        · rw [if_neg (by omega), if_neg (by omega), if_neg (show ¬ l < 4 by omega)]; omega
      rw [hk1] at hr
      have hrow : row 40 7 (trS pc L W R s (b0.2.1 s)) s b0 (col l + 1) = cel 40 (7 * s + col l) (trS pc L W R s (b0.2.1 s) (col l)) b := by
        show (row 40 7 (trS pc L W R s (b0.2.1 s)) s b0 (col l)).bind _ = _
        rw [hr]; rfl
      have hv : trS pc L W R s (b0.2.1 s) (col l) = clo pc L W R (bhF W R (b0.2.1 s) (nI l) 34) := by unfold trS; rw [hsc]
      rw [hv] at hrow
      generalize clo pc L W R (bhF W R (b0.2.1 s) (nI l) 34) = v at hrow
      have hfn : fnd sx v b.1 = fnd b.2.1 v b.1 := by
        obtain ⟨f1, f2, f3⟩ := fnd_s b.2.1 v b.1
        exact fnd_u f1 (fun j hj => by rw [k1 j (by omega)]; exact f2 j hj) (fun hk => by rw [k1 _ hk]; exact f3 hk)
      have next : ∀ b' (sx' : Nat → Int64) (mx' : Nat → Int32), cel 40 (7 * s + col l) v b = some b' → SS s (l + 1) b' sx' mx' → wX_findStates_30 post J17 (nI s) (nI pc) f_textLength f_anythingBuilt f_tokenCount f_parseValue f_parsePlace (d + 1) (nI b'.1) (nI (l + 1)) a_ruleTerms a_ruleLengths a_skips a_grammar a_ranks a_groupings a_text a_heads a_tails a_empties a_placeLetters a_followers a_ruleEnds a_sets a_steps a_classes a_finerClasses (sx') (mx') a_begins a_lookaheads a_builtCounts a_builtSteps a_builtMatches a_builtSkips a_builtGrammar a_builtMoves a_builtActions a_tokenRules a_tokenBegins a_tokenEnds a_stackStates a_stackValues := by
        intro b' sx' mx' hb' h'
        obtain ⟨c1, c2, c3, -⟩ := cel_c g2 hb'
        exact ih (l + 1) b' sx' mx' (by omega) (by rw [hk2]; exact hrow.trans hb') c2 (by omega) (by rw [c3 s g3]; exact g4) h'
      have mxs : ∀ (x : Int32), ∀ p y, y < 13 → (p < s ∨ (p = s ∧ y < l + 1)) → (sym y → upd mx (13 * s + l) x (13 * p + y) = upd b.2.2 (7 * s + col l) x (7 * p + col y)) ∧ (¬ sym y → upd mx (13 * s + l) x (13 * p + y) = -1) := by
        intro x p y hy hd
        by_cases z : p = s ∧ y = l
        · obtain ⟨rfl, rfl⟩ := z
          rw [pk_us, pk_us]; exact ⟨fun _ => rfl, fun h => absurd hsy h⟩
        · rw [pk_un (by omega)]
          obtain ⟨q1, q2⟩ := k2 p y hy (by omega)
          refine ⟨fun h => ?_, q2⟩
          have hcy := col_s h
          rw [pk_un ?_]
          · exact q1 h
          · intro e
            have : p = s := by omega
            have hcc : col y = col l := by omega
            have : y = l := by rw [← hcy.2, ← hsc, hcc]
            omega
      by_cases v0 : v = 0
      · refine br_t v0 (br_f (by decide) (br_f (fun e => zn_ne1 (n := b.1) (by omega) e.symm) ?_))
        unfold wX_findStates_98
        rw [e13, nI_clamp (by omega)]
        refine ⟨i13, nm_e (nm_r (nI_1 l) (next (b.1, b.2.1, upd b.2.2 (7 * s + col l) (-1)) sx _ ?_ ⟨k1, mxs _⟩))⟩
        unfold cel; rw [if_pos v0]
      · refine br_f v0 (xso_ (a_states := sx) g2 ?_)
        rw [hfn]
        obtain ⟨f1, f2, f3⟩ := fnd_s b.2.1 v b.1
        generalize hk : fnd b.2.1 v b.1 = k at f1 f2 f3
        refine pk_eq k 40 (fun e40 => ?_) (fun n40 => pk_eq k b.1 (fun e => ⟨vp_in_nI (by omega) (by omega), ?_⟩) (fun ne => ?_))
        · have : cel 40 (7 * s + col l) v b = none := by
            unfold cel; rw [if_neg v0, hk, if_pos e40]
          rw [this] at hrow
          have h4 := row_n hrow (6 - col l)
          rw [show col l + 1 + (6 - col l) = 7 by omega] at h4
          exact Hn h4 sx mx
        · rw [nI_clamp (show b.1 < 2 ^ 31 by omega)]
          refine nm_e (nm_r (nI_1 b.1) ?_)
          unfold wX_findStates_98
          rw [e13, nI_clamp (by omega), e]
          refine ⟨i13, nm_e (nm_r (nI_1 l) (next (b.1 + 1, vp_updL b.2.1 b.1 v, upd b.2.2 (7 * s + col l) (nI b.1)) (vp_updL sx b.1 v) _ ?_ ⟨fun j j2 => ?_, mxs _⟩))⟩
          · unfold cel; rw [if_neg v0, hk, if_neg n40, if_pos e]
          · show vp_updL sx b.1 v j = vp_updL b.2.1 b.1 v j
            by_cases z : j = b.1
            · subst z; rw [ul_s, ul_s]
            · have : j < b.1 + 1 := j2
              rw [ul_n z, ul_n z]; exact k1 j (by omega)
        · unfold wX_findStates_98
          rw [e13, nI_clamp (by omega)]
          refine ⟨i13, nm_e (nm_r (nI_1 l) (next (b.1, b.2.1, upd b.2.2 (7 * s + col l) (nI k)) sx _ ?_ ⟨k1, mxs _⟩))⟩
          unfold cel; rw [if_neg v0, hk, if_neg n40, if_neg ne]
    · have hv := bh_no hV (v := b0.2.1 s) hsy (by omega)
      have hl : 4 ≤ l ∧ l < 10 := by
        unfold sym at hsy
        omega
      have hk2 : kap (l + 1) = kap l := by
        unfold kap
        rw [if_neg (show ¬ l + 1 ≤ 4 by omega), if_pos (show l + 1 ≤ 10 by omega)]
        by_cases c : l ≤ 4
        · rw [if_pos c]; omega
        · rw [if_neg c, if_pos (by omega)]
      rw [hv]
      refine br_t rfl (br_f (by decide) (br_f (fun e => zn_ne1 (n := b.1) (by omega) e.symm) ?_))
      unfold wX_findStates_98
      rw [e13, nI_clamp (by omega)]
      refine ⟨i13, nm_e (nm_r (nI_1 l) (ih (l + 1) b sx _ (by omega) (by rw [hk2]; exact hr) g2 g3 g4 ⟨k1, fun p y hy hd => ?_⟩))⟩
      by_cases z : p = s ∧ y = l
      · obtain ⟨rfl, rfl⟩ := z
        rw [pk_us]; exact ⟨fun h => absurd h hsy, fun _ => rfl⟩
      · rw [pk_un (by omega)]
        exact k2 p y hy (by omega)
theorem xst_17 {post : Int32 → SX → Prop} (hV : gr_V pc L W R) (hX : gr_X a_grammar L W R) {b0 : Nat × (Nat → Int64) × (Nat → Int32)} (h1 : b0.1 = 1)
    (Hn : bf 40 7 (trS pc L W R) b0 40 = none → ∀ (sx : Nat → Int64) (mx : Nat → Int32), post (-1) (nI pc, f_textLength, f_anythingBuilt, f_tokenCount, f_parseValue, f_parsePlace, a_ruleTerms, a_ruleLengths, a_skips, a_grammar, a_ranks, a_groupings, a_text, a_heads, a_tails, a_empties, a_placeLetters, a_followers, a_ruleEnds, a_sets, a_steps, a_classes, a_finerClasses, sx, mx, a_begins, a_lookaheads, a_builtCounts, a_builtSteps, a_builtMatches, a_builtSkips, a_builtGrammar, a_builtMoves, a_builtActions, a_tokenRules, a_tokenBegins, a_tokenEnds, a_stackStates, a_stackValues))
    (Hs : ∀ b (sx : Nat → Int64) (mx : Nat → Int32), bf 40 7 (trS pc L W R) b0 40 = some b → SS b.1 0 b sx mx → post (nI b.1) (nI pc, f_textLength, f_anythingBuilt, f_tokenCount, f_parseValue, f_parsePlace, a_ruleTerms, a_ruleLengths, a_skips, a_grammar, a_ranks, a_groupings, a_text, a_heads, a_tails, a_empties, a_placeLetters, a_followers, a_ruleEnds, a_sets, a_steps, a_classes, a_finerClasses, sx, mx, a_begins, a_lookaheads, a_builtCounts, a_builtSteps, a_builtMatches, a_builtSkips, a_builtGrammar, a_builtMoves, a_builtActions, a_tokenRules, a_tokenBegins, a_tokenEnds, a_stackStates, a_stackValues)) :
    ∀ d s b (sx : Nat → Int64) (mx : Nat → Int32), s + d = 40 → s ≤ b.1 → bf 40 7 (trS pc L W R) b0 s = some b → SS s 0 b sx mx →
      wX_findStates_17 post (nI pc) f_textLength f_anythingBuilt f_tokenCount f_parseValue f_parsePlace (d + 1) (nI b.1) (nI s) a_ruleTerms a_ruleLengths a_skips a_grammar a_ranks a_groupings a_text a_heads a_tails a_empties a_placeLetters a_followers a_ruleEnds a_sets a_steps a_classes a_finerClasses sx mx a_begins a_lookaheads a_builtCounts a_builtSteps a_builtMatches a_builtSkips a_builtGrammar a_builtMoves a_builtActions a_tokenRules a_tokenBegins a_tokenEnds a_stackStates a_stackValues := by
  intro d
  induction d with
  | zero =>
    intro s b sx mx hs hsb hb h
    have : s = 40 := by omega
    subst this
    obtain ⟨⟨i1, i2, -⟩, -⟩ := bf_i h1 (by omega) 40 b hb
    have e : b.1 = 40 := by omega
    rw [← e] at h
    exact pk_le 40 40 (fun _ => Hs b sx mx hb h) (fun z => absurd z (by omega))
  | succ d ih =>
    intro s b sx mx hs hsb hb h
    obtain ⟨⟨i1, i2, i3⟩, i4⟩ := bf_i h1 (by omega) s b hb
    refine pk_le 40 s (fun z => absurd z (by omega)) (fun _ => pk_le b.1 s (fun z => ?_) (fun z => ?_))
    · have e : b.1 = s := by omega
      have := bf_e hb z (40 - s)
      rw [show s + (40 - s) = 40 by omega] at this
      rw [← e] at h
      exact Hs b sx mx this h
    · have hstep : bf 40 7 (trS pc L W R) b0 (s + 1) = row 40 7 (trS pc L W R s (b.2.1 s)) s b 7 := by
        show (bf 40 7 (trS pc L W R) b0 s).bind _ = _
        rw [hb]
        show (if s < b.1 then _ else _) = _
        rw [if_pos z]
      refine ⟨14, xst_30 hV hX (b0 := b) (by omega) (fun hn sx' mx' => ?_) (fun b' sx' mx' hb' h' => ?_) 13 0 b sx mx (by omega) rfl i2 z rfl h⟩
      · rw [hn] at hstep
        have := bf_n hstep (39 - s)
        rw [show s + 1 + (39 - s) = 40 by omega] at this
        exact Hn this sx' mx'
      · obtain ⟨-, j5, -⟩ := row_i z ⟨i1, i2, i3⟩ 7 b' (Nat.le_refl _) hb'
        rw [hb'] at hstep
        exact ih (s + 1) b' sx' mx' (by omega) (by omega) hstep h'
theorem x_states {post : Int32 → SX → Prop} (hV : gr_V pc L W R) (hX : gr_X a_grammar L W R) {G0 : Nat → Int64} {M0 : Nat → Int32} (hG : G0 0 = st0 pc L W R)
    (Hn : bf 40 7 (trS pc L W R) (1, G0, M0) 40 = none → ∀ (sx : Nat → Int64) (mx : Nat → Int32), post (-1) (nI pc, f_textLength, f_anythingBuilt, f_tokenCount, f_parseValue, f_parsePlace, a_ruleTerms, a_ruleLengths, a_skips, a_grammar, a_ranks, a_groupings, a_text, a_heads, a_tails, a_empties, a_placeLetters, a_followers, a_ruleEnds, a_sets, a_steps, a_classes, a_finerClasses, sx, mx, a_begins, a_lookaheads, a_builtCounts, a_builtSteps, a_builtMatches, a_builtSkips, a_builtGrammar, a_builtMoves, a_builtActions, a_tokenRules, a_tokenBegins, a_tokenEnds, a_stackStates, a_stackValues))
    (Hs : ∀ b (sx : Nat → Int64) (mx : Nat → Int32), bf 40 7 (trS pc L W R) (1, G0, M0) 40 = some b → SS b.1 0 b sx mx → post (nI b.1) (nI pc, f_textLength, f_anythingBuilt, f_tokenCount, f_parseValue, f_parsePlace, a_ruleTerms, a_ruleLengths, a_skips, a_grammar, a_ranks, a_groupings, a_text, a_heads, a_tails, a_empties, a_placeLetters, a_followers, a_ruleEnds, a_sets, a_steps, a_classes, a_finerClasses, sx, mx, a_begins, a_lookaheads, a_builtCounts, a_builtSteps, a_builtMatches, a_builtSkips, a_builtGrammar, a_builtMoves, a_builtActions, a_tokenRules, a_tokenBegins, a_tokenEnds, a_stackStates, a_stackValues)) : wpX_findStates post (nI pc, f_textLength, f_anythingBuilt, f_tokenCount, f_parseValue, f_parsePlace, a_ruleTerms, a_ruleLengths, a_skips, a_grammar, a_ranks, a_groupings, a_text, a_heads, a_tails, a_empties, a_placeLetters, a_followers, a_ruleEnds, a_sets, a_steps, a_classes, a_finerClasses, a_states, a_moves, a_begins, a_lookaheads, a_builtCounts, a_builtSteps, a_builtMatches, a_builtSkips, a_builtGrammar, a_builtMoves, a_builtActions, a_tokenRules, a_tokenBegins, a_tokenEnds, a_stackStates, a_stackValues) := by
  refine xcl hV hX (nm_e ⟨41, xst_17 hV hX (b0 := (1, G0, M0)) rfl Hn Hs 40 0 (1, G0, M0) (vp_updL a_states 0 (st0 pc L W R)) a_moves (by omega) (by show 0 ≤ 1; omega) rfl ⟨fun k hk => ?_, fun p x hx hd => by omega⟩⟩)
  have : k = 0 := by
    have : k < 1 := hk
    omega
  subst this
  rw [ul_s]; exact hG.symm
end
end
section
/-! what nonterminals begin with -/
def itr {σ : Type} (f : σ → σ) : Nat → σ → σ
  | 0, s => s
  | k + 1, s => f (itr f k s)
theorem itr_fix {σ : Type} (f : σ → σ) (c : σ → Nat) (N : Nat) (hc : ∀ s, c s ≤ N) (hi : ∀ s, f s = s ∨ c s < c (f s)) (s : σ) : ∀ x, itr f (N + x) s = itr f N s := by
  have h1 : f (itr f N s) = itr f N s := by
    refine Classical.byContradiction (fun hn => ?_)
    have st : ∀ k, f (itr f k s) = itr f k s → ∀ x, itr f (k + x) s = itr f k s := by
      intro k hk x
      induction x with
      | zero => rfl
      | succ x ih => show f (itr f (k + x) s) = _; rw [ih, hk]
    have gr : ∀ k, k ≤ N + 1 → k ≤ c (itr f k s) := by
      intro k
      induction k with
      | zero => intro _; exact Nat.zero_le _
      | succ k ih =>
        intro hk
        have h2 := ih (by omega)
        rcases hi (itr f k s) with z | z
        · exfalso
          apply hn
          have h3 := st k z (N - k)
          have h4 := st k z (N - k + 1)
          rw [show k + (N - k) = N by omega] at h3
          rw [show k + (N - k + 1) = N + 1 by omega] at h4
          rw [h3]; exact z
        · show k + 1 ≤ c (f (itr f k s))
          omega
    have h5 := gr (N + 1) (Nat.le_refl _)
    have h6 := hc (itr f (N + 1) s)
    omega
  intro x
  induction x with
  | zero => rfl
  | succ x ih => show f (itr f (N + x) s) = _; rw [ih, h1]
section
variable (L W : Nat → Nat) (R : Nat → Nat → Nat)
def bgn (yb : Nat → Int32) (x : Nat) : Int32 := if x < 4 then (1 : Int32) <<< (nI x &&& 31) else yb (x - 10)
def emp (ny : Nat → Int32) (x : Nat) : Bool := decide (10 ≤ x) && !(ny (x - 10) == 0)
/-- the terminals that begin the symbols from place k on; whether all of these can be empty -/
def rsP (s : (Nat → Int32) × (Nat → Int32)) (p : Nat) : Nat → Nat → Int32 → Int32 × Bool
  | 0, _, a => (a, true)
  | d + 1, k, a => if emp s.2 (R p k) then rsP s p d (k + 1) (a ||| bgn s.1 (R p k)) else (a ||| bgn s.1 (R p k), false)
def rst (s : (Nat → Int32) × (Nat → Int32)) (p k : Nat) : Int32 × Bool := rsP R s p (W p - k) k 0
def pstp (p : Nat) (s : (Nat → Int32) × (Nat → Int32)) : (Nat → Int32) × (Nat → Int32) :=
  (upd s.1 (L p - 10) (s.1 (L p - 10) ||| (rst W R s p 0).1), if (rst W R s p 0).2 then upd s.2 (L p - 10) 1 else s.2)
def rnd : Nat → (Nat → Int32) × (Nat → Int32) → (Nat → Int32) × (Nat → Int32)
  | 0, s => s
  | p + 1, s => pstp L W R p (rnd p s)
def low (x : Int32) : Prop := ∀ i, 4 ≤ i → bt x i = false
def LW (s : (Nat → Int32) × (Nat → Int32)) : Prop := ∀ n, n < 3 → low (s.1 n) ∧ (s.2 n = 0 ∨ s.2 n = 1)
end
section
variable {pc : Nat} {L W : Nat → Nat} {R : Nat → Nat → Nat}
theorem low_0 : low 0 := fun i _ => b_0 i
theorem low_or {x y : Int32} (h : low x) (g : low y) : low (x ||| y) := fun i hi => by rw [b_or, h i hi, g i hi]; rfl
theorem low_b {s : (Nat → Int32) × (Nat → Int32)} (h : LW s) {x : Nat} (hx : sym x) : low (bgn s.1 x) := by
  unfold bgn
  by_cases c : x < 4
  · rw [if_pos c]
    intro i hi
    rw [zc_one (by omega)]; exact decide_eq_false (by omega)
  · rw [if_neg c]
    exact (h (x - 10) (by rcases hx with z | z <;> omega)).1
theorem rsP_low {s : (Nat → Int32) × (Nat → Int32)} (h : LW s) {p : Nat} : ∀ d k a, (∀ j, k ≤ j → j < k + d → sym (R p j)) → low a → low (rsP R s p d k a).1
  | 0, k, a, _, ha => ha
  | d + 1, k, a, hR, ha => by
    unfold rsP
    have hb := low_or ha (low_b h (hR k (Nat.le_refl _) (by omega)))
    split
    · exact rsP_low h d (k + 1) _ (fun j h1 h2 => hR j (by omega) (by omega)) hb
    · exact hb
theorem rst_low {s : (Nat → Int32) × (Nat → Int32)} (h : LW s) (hV : gr_V pc L W R) {p k : Nat} : low (rst W R s p k).1 :=
  rsP_low h _ _ _ (fun j h1 h2 => (hV.2.1 p).2.2 j (by omega)) low_0
theorem LW_p {s : (Nat → Int32) × (Nat → Int32)} (h : LW s) (hV : gr_V pc L W R) {p : Nat} (hp : p < pc) : LW (pstp L W R p s) := by
  intro n hn
  unfold pstp
  refine ⟨?_, ?_⟩
  · dsimp only
    by_cases e : n = L p - 10
    · subst e; rw [pk_us]; exact low_or (h _ hn).1 (rst_low h hV)
    · rw [pk_un e]; exact (h n hn).1
  · dsimp only
    split
    · by_cases e : n = L p - 10
      · subst e; rw [pk_us]; exact Or.inr rfl
      · rw [pk_un e]; exact (h n hn).2
    · exact (h n hn).2
theorem LW_r {s : (Nat → Int32) × (Nat → Int32)} (h : LW s) (hV : gr_V pc L W R) : ∀ p, p ≤ pc → LW (rnd L W R p s)
  | 0, _ => h
  | p + 1, hp => LW_p (LW_r h hV p (by omega)) hV (by omega)
theorem LW_i {s : (Nat → Int32) × (Nat → Int32)} (h : LW s) (hV : gr_V pc L W R) : ∀ k, LW (itr (rnd L W R pc) k s)
  | 0 => h
  | k + 1 => LW_r (LW_i h hV k) hV pc (Nat.le_refl _)
end
/-! the same, bit by bit -/
section
variable (L W : Nat → Nat) (R : Nat → Nat → Nat) (t : Nat)
def rsB (s : (Nat → Bool) × (Nat → Bool)) (p : Nat) : Nat → Nat → Bool → Bool × Bool
  | 0, _, a => (a, true)
  | d + 1, k, a => if decide (10 ≤ R p k) && s.1 (R p k - 10) then rsB s p d (k + 1) (a || (if R p k < 4 then decide (t = R p k) else s.2 (R p k - 10))) else (a || (if R p k < 4 then decide (t = R p k) else s.2 (R p k - 10)), false)
def pB (p : Nat) (s : (Nat → Bool) × (Nat → Bool)) : (Nat → Bool) × (Nat → Bool) :=
  (fun n => s.1 n || ((n == L p - 10) && (rsB R t s p (W p) 0 false).2), fun n => s.2 n || ((n == L p - 10) && (rsB R t s p (W p) 0 false).1))
def rB : Nat → (Nat → Bool) × (Nat → Bool) → (Nat → Bool) × (Nat → Bool)
  | 0, s => s
  | p + 1, s => pB L W R t p (rB p s)
def pj (s : (Nat → Int32) × (Nat → Int32)) : (Nat → Bool) × (Nat → Bool) := (fun n => decide (n < 3) && !(s.2 n == 0), fun n => decide (n < 3) && bt (s.1 n) t)
end
def c3 (f : Nat → Bool) : Nat := (if f 0 then 1 else 0) + (if f 1 then 1 else 0) + (if f 2 then 1 else 0)
theorem c3_le (f : Nat → Bool) : c3 f ≤ 3 := by unfold c3; (repeat' split) <;> omega
theorem c3_or (f : Nat → Bool) (m : Nat) (b : Bool) (hm : m < 3) : (fun n => f n || ((n == m) && b)) = f ∨ c3 f < c3 (fun n => f n || ((n == m) && b)) := by
  cases b with
  | false => left; funext n; simp
  | true =>
    cases hf : f m with
    | true =>
      left; funext n
      by_cases e : n = m
      · subst e; simp [hf]
      · simp [e]
    | false =>
      right
      unfold c3
      have hm' : m = 0 ∨ m = 1 ∨ m = 2 := by omega
      rcases hm' with rfl | rfl | rfl <;> simp [hf] <;> omega
section
variable {pc : Nat} {L W : Nat → Nat} {R : Nat → Nat → Nat} {t : Nat}
def c6 (s : (Nat → Bool) × (Nat → Bool)) : Nat := c3 s.1 + c3 s.2
theorem pB_i {p : Nat} (hm : L p - 10 < 3) (s : (Nat → Bool) × (Nat → Bool)) : pB L W R t p s = s ∨ c6 s < c6 (pB L W R t p s) := by
  unfold pB c6
  dsimp only
  rcases c3_or s.1 (L p - 10) (rsB R t s p (W p) 0 false).2 hm with h1 | h1 <;> rcases c3_or s.2 (L p - 10) (rsB R t s p (W p) 0 false).1 hm with h2 | h2
  · left; rw [h1, h2]
  · right; rw [h1]; omega
  · right; rw [h2]; omega
  · right; omega
theorem rB_i (hL : ∀ p, p < pc → L p - 10 < 3) (s : (Nat → Bool) × (Nat → Bool)) : ∀ p, p ≤ pc → rB L W R t p s = s ∨ c6 s < c6 (rB L W R t p s)
  | 0, _ => Or.inl rfl
  | p + 1, hp => by
    have h1 := rB_i hL s p (by omega)
    have h2 := pB_i (W := W) (R := R) (t := t) (hL p (by omega)) (rB L W R t p s)
    show pB L W R t p (rB L W R t p s) = s ∨ c6 s < c6 (pB L W R t p (rB L W R t p s))
    rcases h1 with h1 | h1
    · rw [h1] at h2 ⊢; exact h2
    · rcases h2 with h2 | h2
      · rw [h2]; exact Or.inr h1
      · exact Or.inr (by omega)
theorem rs_pj {s : (Nat → Int32) × (Nat → Int32)} {p : Nat} : ∀ d k a, (∀ j, k ≤ j → j < k + d → sym (R p j)) → (bt (rsP R s p d k a).1 t, (rsP R s p d k a).2) = rsB R t (pj t s) p d k (bt a t)
  | 0, k, a, _ => rfl
  | d + 1, k, a, hR => by
    have hs := hR k (Nat.le_refl _) (by omega)
    have e1 : bt (a ||| bgn s.1 (R p k)) t = (bt a t || (if R p k < 4 then decide (t = R p k) else (pj t s).2 (R p k - 10))) := by
      rw [b_or]
      unfold bgn pj
      by_cases c : R p k < 4
      · rw [if_pos c, if_pos c, zc_one (by omega)]
      · rw [if_neg c, if_neg c]
        dsimp only
        rw [decide_eq_true (show R p k - 10 < 3 by rcases hs with z | z <;> omega), Bool.true_and]
    have e2 : emp s.2 (R p k) = (decide (10 ≤ R p k) && (pj t s).1 (R p k - 10)) := by
      unfold emp pj
      dsimp only
      by_cases c : 10 ≤ R p k
      · rw [decide_eq_true c, decide_eq_true (show R p k - 10 < 3 by rcases hs with z | z <;> omega)]; simp
      · rw [decide_eq_false c]; simp
    unfold rsP rsB
    rw [e2, ← e1]
    split
    · exact rs_pj d (k + 1) _ (fun j h1 h2 => hR j (by omega) (by omega))
    · rfl
theorem p_pj (hV : gr_V pc L W R) {s : (Nat → Int32) × (Nat → Int32)} {p : Nat} (hp : p < pc) : pj t (pstp L W R p s) = pB L W R t p (pj t s) := by
  have hL := hV.2.2.1 p hp
  have h := rs_pj (R := R) (t := t) (s := s) (p := p) (W p - 0) 0 0 (fun j h1 h2 => (hV.2.1 p).2.2 j (by omega))
  rw [b_0] at h
  have h1 := congrArg Prod.fst h
  have h2 := congrArg Prod.snd h
  dsimp only at h1 h2
  rw [Nat.sub_zero] at h1 h2
  unfold pB
  rw [← h1, ← h2]
  unfold pstp pj rst
  rw [Nat.sub_zero]
  dsimp only
  refine Prod.ext ?_ ?_
  · funext n
    dsimp only
    by_cases e : n = L p - 10
    · subst e
      rw [decide_eq_true (show L p - 10 < 3 by omega)]
      cases hE : (rsP R s p (W p) 0 0).2 with
      | true => rw [if_pos rfl, pk_us]; simp
      | false => rw [if_neg (by decide)]; simp
    · cases hE : (rsP R s p (W p) 0 0).2 with
      | true => rw [if_pos rfl, pk_un e]; simp [e]
      | false => rw [if_neg (by decide)]; simp
  · funext n
    dsimp only
    by_cases e : n = L p - 10
    · subst e
      rw [decide_eq_true (show L p - 10 < 3 by omega), pk_us, b_or]; simp
    · rw [pk_un e]; simp [e]
theorem r_pj (hV : gr_V pc L W R) {s : (Nat → Int32) × (Nat → Int32)} : ∀ p, p ≤ pc → pj t (rnd L W R p s) = rB L W R t p (pj t s)
  | 0, _ => rfl
  | p + 1, hp => by
    show pj t (pstp L W R p (rnd L W R p s)) = pB L W R t p (rB L W R t p (pj t s))
    rw [p_pj hV (by omega), r_pj hV p (by omega)]
theorem i_pj (hV : gr_V pc L W R) {s : (Nat → Int32) × (Nat → Int32)} : ∀ k, pj t (itr (rnd L W R pc) k s) = itr (rB L W R t pc) k (pj t s)
  | 0 => rfl
  | k + 1 => by
    show pj t (rnd L W R pc (itr (rnd L W R pc) k s)) = rB L W R t pc (itr (rB L W R t pc) k (pj t s))
    rw [r_pj hV pc (Nat.le_refl _), i_pj hV k]
/-- eight rounds are enough, and nineteen give the same -/
theorem bg_eq (hV : gr_V pc L W R) {s : (Nat → Int32) × (Nat → Int32)} (hs : LW s) {n : Nat} (hn : n < 3) :
    (itr (rnd L W R pc) 19 s).1 n = (itr (rnd L W R pc) 8 s).1 n ∧ (itr (rnd L W R pc) 19 s).2 n = (itr (rnd L W R pc) 8 s).2 n := by
  have key : ∀ t, pj t (itr (rnd L W R pc) 19 s) = pj t (itr (rnd L W R pc) 8 s) := by
    intro t
    rw [i_pj hV, i_pj hV]
    have hf := itr_fix (rB L W R t pc) c6 6 (fun s => by unfold c6; have := c3_le s.1; have := c3_le s.2; omega) (fun s => rB_i (fun p hp => by have := hV.2.2.1 p hp; omega) s pc (Nat.le_refl _)) (pj t s)
    rw [show 19 = 6 + 13 from rfl, show 8 = 6 + 2 from rfl, hf 13, hf 2]
  have l1 := LW_i hs hV 19 n hn
  have l2 := LW_i hs hV 8 n hn
  generalize itr (rnd L W R pc) 19 s = a at key l1
  generalize itr (rnd L W R pc) 8 s = b at key l2
  have kb : ∀ t, bt (a.1 n) t = bt (b.1 n) t := by
    intro t
    have := congrFun (congrArg Prod.snd (key t)) n
    unfold pj at this
    dsimp only at this
    rw [decide_eq_true hn, Bool.true_and, Bool.true_and] at this
    exact this
  refine ⟨b_ext fun i _ => kb i, ?_⟩
  have := congrFun (congrArg Prod.fst (key 0)) n
  unfold pj at this
  dsimp only at this
  rw [decide_eq_true hn, Bool.true_and, Bool.true_and] at this
  rcases l1.2 with h1 | h1 <;> rcases l2.2 with h2 | h2
  · rw [h1, h2]
  · rw [h1, h2] at this; exact absurd this (by decide)
  · rw [h1, h2] at this; exact absurd this (by decide)
  · rw [h1, h2]
end
end
section
/-! what nonterminals begin with: both sides -/
theorem m33 : ∀ i, i < 32 → bt (-33) i = decide (i ≠ 5) := by decide +kernel
theorem m32 : ∀ i, i < 32 → bt 32 i = decide (i = 5) := by decide +kernel
theorem m15 : ∀ i, i < 32 → bt 15 i = decide (i < 4) := by decide +kernel
theorem lo_a {y : Int32} (h : low y) : y &&& (-33) = y := by
  apply b_ext; intro i hi
  rw [b_and, m33 i hi]
  by_cases c : i = 5
  · subst c; rw [h 5 (by omega)]; rfl
  · simp [c]
theorem lo_b {y : Int32} (h : low y) : (y ||| 32) &&& (-33) = y := by
  apply b_ext; intro i hi
  rw [b_and, b_or, m33 i hi, m32 i hi]
  by_cases c : i = 5
  · subst c; rw [h 5 (by omega)]; rfl
  · simp [c]
theorem lo_c {y : Int32} (h : low y) : y &&& 32 = 0 := by
  apply b_ext; intro i hi
  rw [b_and, m32 i hi, b_0]
  by_cases c : i = 5
  · subst c; rw [h 5 (by omega)]; rfl
  · simp [c]
theorem lo_d {y : Int32} : ¬ (y ||| 32) &&& 32 = 0 := by
  intro e
  have : bt ((y ||| 32) &&& 32) 5 = true := by rw [b_and, b_or, m32 5 (by omega)]; simp
  rw [e, b_0] at this; exact absurd this (by decide)
theorem pk_andE (x : Int32) {m : Int32} (k : Nat) (hm : m.toBitVec.toNat = 2 ^ k - 1) : ∃ j : Nat, j < 2 ^ k ∧ x &&& m = nI j := by
  refine ⟨x.toBitVec.toNat % 2 ^ k, Nat.mod_lt _ (Nat.two_pow_pos k), ?_⟩
  apply Int32.toBitVec_inj.mp
  apply BitVec.eq_of_toNat_eq
  rw [Int32.toBitVec_and, BitVec.toNat_and, hm, Nat.and_two_pow_sub_one_eq_mod]
  show _ = (BitVec.ofNat 32 _).toNat
  rw [BitVec.toNat_ofNat]
  exact (Nat.mod_eq_of_lt (Nat.lt_of_le_of_lt (Nat.mod_le _ _) x.toBitVec.isLt)).symm
theorem lo_15 {y : Int32} (h : low y) : y &&& 15 = y := by
  apply b_ext; intro i hi
  rw [b_and, m15 i hi]
  by_cases c : i < 4
  · simp [c]
  · rw [h i (by omega)]; rfl
theorem lo_n {y : Int32} (h : low y) : ∃ m, m < 16 ∧ y = nI m := by
  obtain ⟨j, hj, e⟩ := pk_andE y (m := 15) 4 (by decide)
  rw [lo_15 h] at e
  exact ⟨j, hj, e⟩
theorem lo_or : ∀ m, m < 16 → nI m ||| 32 = nI (m + 32) ∧ (nI m ||| 32) &&& 15 = nI m := by decide +kernel
theorem em_nt (ny : Nat → Int32) {x : Nat} (h : x < 4) : emp ny x = false := by unfold emp; rw [decide_eq_false (by omega)]; rfl
theorem one4 : ∀ x, x < 4 → ((1 : Int32) <<< (nI x &&& 31)) &&& (-33) = (1 : Int32) <<< (nI x &&& 31) ∧ ((1 : Int32) <<< (nI x &&& 31)) &&& 32 = 0 := by decide +kernel
def BR (xb : Nat → Int32) (s : (Nat → Int32) × (Nat → Int32)) : Prop := ∀ n, n < 3 → xb n = if s.2 n = 0 then s.1 n else s.1 n ||| 32
def YR (yb ny : Nat → Int32) (s : (Nat → Int32) × (Nat → Int32)) : Prop := ∀ n, n < 3 → yb n = s.1 n ∧ ny n = s.2 n
def rsv (r : Int32 × Bool) (t : Int32) : Int32 := if r.2 then r.1 ||| t else r.1
section
variable {f_productionCount f_textLength f_anythingBuilt f_tokenCount f_parseValue f_parsePlace : Int32} {a_ruleTerms a_ruleLengths a_skips a_grammar a_ranks a_groupings a_text a_heads a_tails a_empties a_placeLetters a_followers a_ruleEnds : Nat → Int32} {a_sets : Nat → Int64} {a_steps a_classes a_finerClasses : Nat → Int32} {a_states : Nat → Int64} {a_moves a_begins a_lookaheads a_builtCounts a_builtSteps a_builtMatches a_builtSkips a_builtGrammar a_builtMoves a_builtActions a_tokenRules a_tokenBegins a_tokenEnds a_stackStates a_stackValues : Nat → Int32} {pc : Nat} {L W : Nat → Nat} {R : Nat → Nat → Nat} {s : (Nat → Int32) × (Nat → Int32)}
theorem xr_4 {post : Int32 → Prop} {p k : Nat} (hp : p < 9) (hV : gr_V pc L W R) (hX : gr_X a_grammar L W R) (hs : LW s) (hB : BR a_begins s) :
    ∀ d i a, k + i + d = W p → post (rsv (rsP R s p d (k + i) a) 32) → wX_beginOfRest_4 post (nI (4 * p + k)) f_productionCount f_textLength f_anythingBuilt f_tokenCount f_parseValue f_parsePlace a_ruleTerms a_ruleLengths a_skips a_grammar a_ranks a_groupings a_text a_heads a_tails a_empties a_placeLetters a_followers a_ruleEnds a_sets a_steps a_classes a_finerClasses a_states a_moves a_begins a_lookaheads a_builtCounts a_builtSteps a_builtMatches a_builtSkips a_builtGrammar a_builtMoves a_builtActions a_tokenRules a_tokenBegins a_tokenEnds a_stackStates a_stackValues (d + 1) a (nI i) := by
  have hw := (hV.2.1 p).2.1
  intro d
  induction d with
  | zero =>
    intro i a hi H
    refine pk_le 4 i (fun z => absurd z (by omega)) (fun _ => ?_)
    rw [nI_add]
    refine xy_ (by omega) hV hX ?_
    have : nxt W R (4 * p + k + i) = -1 := by
      unfold nxt; rw [show (4 * p + k + i) / 4 = p by omega, if_neg (by omega)]
    rw [this]
    exact br_t rfl H
  | succ d ih =>
    intro i a hi H
    refine pk_le 4 i (fun z => absurd z (by omega)) (fun _ => ?_)
    rw [nI_add]
    refine xy_ (by omega) hV hX ?_
    have hsy := (hV.2.1 p).2.2 (k + i) (by omega)
    have : nxt W R (4 * p + k + i) = nI (R p (k + i)) := by
      unfold nxt; rw [show (4 * p + k + i) / 4 = p by omega, show (4 * p + k + i) % 4 = k + i by omega, if_pos (by omega)]
    rw [this]
    unfold rsP at H
    generalize R p (k + i) = x at hsy H
    have hx13 : x < 13 := by rcases hsy with z | z <;> omega
    refine br_f (zn_ne1 (by omega)) ?_
    have ih' := ih (i + 1)
    rw [← Nat.add_assoc] at ih'
    rcases hsy with c | c
    · obtain ⟨o1, o2⟩ := one4 x c
      rw [em_nt s.2 c] at H
      have hb : bgn s.1 x = (1 : Int32) <<< (nI x &&& 31) := by unfold bgn; rw [if_pos c]
      rw [hb] at H
      refine xn_f (fun ⟨j, hj, e⟩ => ?_) (br_t rfl ?_)
      · have := zn_inj (by omega) (by omega) e; omega
      · unfold wX_beginOfRest_54
        rw [o1]
        exact nm_e (br_t o2 H)
    · have hn : x - 10 < 3 := by omega
      have hb : bgn s.1 x = s.1 (x - 10) := by unfold bgn; rw [if_neg (by omega)]
      have hlow := (hs (x - 10) hn).1
      refine xn_t ⟨x, c, rfl⟩ (br_f (by decide) ?_)
      rw [show nI x - 10 = nI (x - 10) from by rw [show (10 : Int32) = nI 10 from rfl, pk_sub (by omega)], nI_clamp (by omega), hB (x - 10) hn]
      refine ⟨vp_in_nI hn (by omega), ?_⟩
      unfold wX_beginOfRest_54
      rw [hb] at H
      by_cases e0 : s.2 (x - 10) = 0
      · have he : emp s.2 x = false := by unfold emp; rw [e0]; simp
        rw [he] at H
        rw [if_pos e0, lo_a hlow]
        exact nm_e (br_t (lo_c hlow) H)
      · have he : emp s.2 x = true := by unfold emp; rw [decide_eq_true c.1, beq_eq_false_iff_ne.mpr e0]; rfl
        rw [he] at H
        rw [if_neg e0, lo_b hlow]
        exact nm_e (br_f lo_d (nm_r (nI_1 i) (ih' _ (by omega) H)))
theorem xr_ {post : Int32 → Prop} {p k : Nat} (hp : p < 9) (hk : k ≤ W p) (hV : gr_V pc L W R) (hX : gr_X a_grammar L W R) (hs : LW s) (hB : BR a_begins s) (H : post (rsv (rst W R s p k) 32)) : wpX_beginOfRest post (f_productionCount, f_textLength, f_anythingBuilt, f_tokenCount, f_parseValue, f_parsePlace, a_ruleTerms, a_ruleLengths, a_skips, a_grammar, a_ranks, a_groupings, a_text, a_heads, a_tails, a_empties, a_placeLetters, a_followers, a_ruleEnds, a_sets, a_steps, a_classes, a_finerClasses, a_states, a_moves, a_begins, a_lookaheads, a_builtCounts, a_builtSteps, a_builtMatches, a_builtSkips, a_builtGrammar, a_builtMoves, a_builtActions, a_tokenRules, a_tokenBegins, a_tokenEnds, a_stackStates, a_stackValues) (nI (4 * p + k)) :=
  ⟨W p - k + 1, xr_4 hp hV hX hs hB (W p - k) 0 0 (by omega) H⟩
end
section
variable {g_productions : Int32} {g_start : Int64} {g_sets g_states g_conflicts g_ready g_length g_tokens g_stuck g_scanned g_value g_place : Int32} {b_term b_size b_skipped b_left b_right b_width b_op b_constant b_rank b_grouping b_bTerm b_bSize b_bSkipped b_bLeft b_bWidth b_bOp b_bConstant : Nat → Int32} {b_follow b_ends b_first b_last : Nat → Int64} {b_none : Nat → Int32} {b_set : Nat → Int64} {b_leads b_apart : Nat → Int32} {b_state : Nat → Int64} {b_to b_look b_begins b_nullable b_act b_built b_leadTo b_text b_fits b_token b_stack b_worth : Nat → Int32} {pc : Nat} {L W : Nat → Nat} {R : Nat → Nat → Nat} {s : (Nat → Int32) × (Nat → Int32)}
theorem yb_ {post : Int32 → Prop} {x : Nat} (hx : sym x) (hB : YR b_begins b_nullable s) (H : post (bgn s.1 x)) : wpY_begin post (g_productions, g_start, g_sets, g_states, g_conflicts, g_ready, g_length, g_tokens, g_stuck, g_scanned, g_value, g_place, b_term, b_size, b_skipped, b_left, b_right, b_width, b_op, b_constant, b_rank, b_grouping, b_bTerm, b_bSize, b_bSkipped, b_bLeft, b_bWidth, b_bOp, b_bConstant, b_follow, b_ends, b_first, b_last, b_none, b_set, b_leads, b_apart, b_state, b_to, b_look, b_begins, b_nullable, b_act, b_built, b_leadTo, b_text, b_fits, b_token, b_stack, b_worth) (nI x) := by
  have hx13 : x < 13 := by rcases hx with z | z <;> omega
  refine br_t (nI_pos' (by omega)) (pk_le 4 x (fun c => ?_) (fun c => ?_))
  · have hn : x - 10 < 3 := by rcases hx with z | z <;> omega
    rw [show nI x - 10 = nI (x - 10) from by rw [show (10 : Int32) = nI 10 from rfl, pk_sub (by rcases hx with z | z <;> omega)], nI_clamp (by omega), (hB _ hn).1]
    unfold bgn at H; rw [if_neg (by omega)] at H
    exact ⟨vp_in_nI hn (by omega), H⟩
  · unfold bgn at H; rw [if_pos c] at H; exact H
theorem ye_ {post : Int32 → Prop} {x : Nat} (hx : sym x) (hB : YR b_begins b_nullable s) (H : post (b2 (emp s.2 x))) : wpY_empties post (g_productions, g_start, g_sets, g_states, g_conflicts, g_ready, g_length, g_tokens, g_stuck, g_scanned, g_value, g_place, b_term, b_size, b_skipped, b_left, b_right, b_width, b_op, b_constant, b_rank, b_grouping, b_bTerm, b_bSize, b_bSkipped, b_bLeft, b_bWidth, b_bOp, b_bConstant, b_follow, b_ends, b_first, b_last, b_none, b_set, b_leads, b_apart, b_state, b_to, b_look, b_begins, b_nullable, b_act, b_built, b_leadTo, b_text, b_fits, b_token, b_stack, b_worth) (nI x) := by
  have hx13 : x < 13 := by rcases hx with z | z <;> omega
  refine br_f (nI_pos (by omega)) (pk_le x 9 (fun c => ?_) (fun c => ?_))
  · rw [em_nt s.2 (by rcases hx with z | z <;> omega)] at H; exact H
  · have hn : x - 10 < 3 := by omega
    rw [show nI x - 10 = nI (x - 10) from by rw [show (10 : Int32) = nI 10 from rfl, pk_sub (by omega)], nI_clamp (by omega), (hB _ hn).2]
    refine ⟨vp_in_nI hn (by omega), br_c (fun e => ?_) (fun e => ?_)⟩
    · have he : emp s.2 x = false := by unfold emp; rw [e]; simp
      rw [he] at H; exact H
    · have he : emp s.2 x = true := by unfold emp; rw [decide_eq_true (by omega), beq_eq_false_iff_ne.mpr e]; rfl
      rw [he] at H; exact H
theorem yr_6 {post : Int32 → Prop} {p : Nat} {th : Int32} (hp : p < 9) (hV : gr_V pc L W R) (hY : gr_Y b_left b_right b_width L W R) (hB : YR b_begins b_nullable s) :
    ∀ d k a, k + d = W p → post (rsv (rsP R s p d k a) th) → wY_beginning_6 post (nI p) th g_productions g_start g_sets g_states g_conflicts g_ready g_length g_tokens g_stuck g_scanned g_value g_place b_term b_size b_skipped b_left b_right b_width b_op b_constant b_rank b_grouping b_bTerm b_bSize b_bSkipped b_bLeft b_bWidth b_bOp b_bConstant b_follow b_ends b_first b_last b_none b_set b_leads b_apart b_state b_to b_look b_begins b_nullable b_act b_built b_leadTo b_text b_fits b_token b_stack b_worth (d + 1) a (nI k) := by
  have hw := (hV.2.1 p).2.1
  obtain ⟨g1, g2, g3⟩ := hY p hp
  have cp : (nI p).toNatClampNeg = p := nI_clamp (by omega)
  have ip : vp_in (nI p) 9 := vp_in_nI hp (by omega)
  intro d
  induction d with
  | zero =>
    intro k a hk H
    refine ⟨ip, ?_⟩
    rw [cp, g2]
    exact pk_le (W p) k (fun _ => H) (fun z => absurd z (by omega))
  | succ d ih =>
    intro k a hk H
    refine ⟨ip, ?_⟩
    rw [cp, g2]
    refine pk_le (W p) k (fun z => absurd z (by omega)) (fun _ => ?_)
    have hsy := (hV.2.1 p).2.2 k (by omega)
    rw [show 3 * nI p + nI k = nI (3 * p + k) from by rw [show (3 : Int32) = nI 3 from rfl, pk_mul, nI_add], nI_clamp (by omega), g3 k (by omega)]
    have i27 : vp_in (nI (3 * p + k)) 27 := vp_in_nI (by omega) (by omega)
    unfold rsP at H
    refine ⟨i27, yb_ hsy hB (nm_e ⟨i27, ye_ hsy hB ?_⟩)⟩
    cases he : emp s.2 (R p k) with
    | false => rw [he] at H; exact br_t rfl H
    | true => rw [he] at H; exact br_f (by decide) (nm_r (nI_1 k) (ih (k + 1) _ (by omega) H))
theorem yr_b {post : Int32 → Prop} {p k : Nat} {th : Int32} (hp : p < 9) (hk : k ≤ W p) (hV : gr_V pc L W R) (hY : gr_Y b_left b_right b_width L W R) (hB : YR b_begins b_nullable s) (H : post (rsv (rst W R s p k) th)) : wpY_beginning post (g_productions, g_start, g_sets, g_states, g_conflicts, g_ready, g_length, g_tokens, g_stuck, g_scanned, g_value, g_place, b_term, b_size, b_skipped, b_left, b_right, b_width, b_op, b_constant, b_rank, b_grouping, b_bTerm, b_bSize, b_bSkipped, b_bLeft, b_bWidth, b_bOp, b_bConstant, b_follow, b_ends, b_first, b_last, b_none, b_set, b_leads, b_apart, b_state, b_to, b_look, b_begins, b_nullable, b_act, b_built, b_leadTo, b_text, b_fits, b_token, b_stack, b_worth) (nI p) (nI k) th :=
  ⟨W p - k + 1, yr_6 hp hV hY hB (W p - k) k 0 (by omega) H⟩
end
section
variable {f_productionCount f_textLength f_anythingBuilt f_tokenCount f_parseValue f_parsePlace : Int32} {a_ruleTerms a_ruleLengths a_skips a_grammar a_ranks a_groupings a_text a_heads a_tails a_empties a_placeLetters a_followers a_ruleEnds : Nat → Int32} {a_sets : Nat → Int64} {a_steps a_classes a_finerClasses : Nat → Int32} {a_states : Nat → Int64} {a_moves a_begins a_lookaheads a_builtCounts a_builtSteps a_builtMatches a_builtSkips a_builtGrammar a_builtMoves a_builtActions a_tokenRules a_tokenBegins a_tokenEnds a_stackStates a_stackValues : Nat → Int32} {pc : Nat} {L W : Nat → Nat} {R : Nat → Nat → Nat}
theorem BR_p {xb : Nat → Int32} {s : (Nat → Int32) × (Nat → Int32)} (hV : gr_V pc L W R) {p : Nat} (hp : p < pc) (hs : LW s) (h : BR xb s) : BR (upd xb (L p - 10) (xb (L p - 10) ||| rsv (rst W R s p 0) 32)) (pstp L W R p s) := by
  have hL := hV.2.2.1 p hp
  intro n hn
  unfold pstp
  dsimp only
  by_cases e : n = L p - 10
  · subst e
    rw [pk_us, pk_us, h _ hn]
    unfold rsv
    generalize (rst W R s p 0).1 = A
    cases (rst W R s p 0).2 with
    | false =>
      rw [if_neg (show ¬ (false = true) by decide), if_neg (show ¬ (false = true) by decide)]
      by_cases e0 : s.2 (L p - 10) = 0
      · rw [if_pos e0, if_pos e0]
      · rw [if_neg e0, if_neg e0]
        apply b_ext; intro i _
        simp only [b_or]
        cases bt (s.1 (L p - 10)) i <;> cases bt A i <;> simp
    | true =>
      rw [if_pos rfl, if_pos rfl, if_neg (show ¬ upd s.2 (L p - 10) 1 (L p - 10) = 0 by rw [pk_us]; decide)]
      apply b_ext; intro i _
      by_cases e0 : s.2 (L p - 10) = 0
      · rw [if_pos e0]; simp only [b_or, Bool.or_assoc]
      · rw [if_neg e0]; simp only [b_or]
        cases bt (s.1 (L p - 10)) i <;> cases bt A i <;> simp
  · rw [pk_un e, pk_un e]
    have : (if (rst W R s p 0).2 = true then upd s.2 (L p - 10) 1 else s.2) n = s.2 n := by
      split
      · exact pk_un e
      · rfl
    simp only [this]; exact h n hn
theorem xf_30 {post : SX → Prop} {J22 : Int32 → (Nat → Int32) → (Nat → Int32) → (Nat → Int32) → (Nat → Int32) → (Nat → Int32) → (Nat → Int32) → (Nat → Int32) → (Nat → Int32) → (Nat → Int32) → (Nat → Int32) → (Nat → Int32) → (Nat → Int32) → (Nat → Int32) → (Nat → Int64) → (Nat → Int32) → (Nat → Int32) → (Nat → Int32) → (Nat → Int64) → (Nat → Int32) → (Nat → Int32) → (Nat → Int32) → (Nat → Int32) → (Nat → Int32) → (Nat → Int32) → (Nat → Int32) → (Nat → Int32) → (Nat → Int32) → (Nat → Int32) → (Nat → Int32) → (Nat → Int32) → (Nat → Int32) → (Nat → Int32) → (Nat → Int32) → Prop} {k : Nat} {s : (Nat → Int32) × (Nat → Int32)} (hs : LW s) (hV : gr_V pc L W R) (hX : gr_X a_grammar L W R) (H : ∀ xb : Nat → Int32, BR xb (rnd L W R pc s) → J22 (nI (k + 1)) a_ruleTerms a_ruleLengths a_skips a_grammar a_ranks a_groupings a_text a_heads a_tails a_empties a_placeLetters a_followers a_ruleEnds a_sets a_steps a_classes a_finerClasses a_states a_moves xb a_lookaheads a_builtCounts a_builtSteps a_builtMatches a_builtSkips a_builtGrammar a_builtMoves a_builtActions a_tokenRules a_tokenBegins a_tokenEnds a_stackStates a_stackValues) :
    ∀ d p (xb : Nat → Int32), p + d = pc → BR xb (rnd L W R p s) → wX_findBegins_30 post J22 (nI k) (nI pc) f_textLength f_anythingBuilt f_tokenCount f_parseValue f_parsePlace (d + 1) (nI p) a_ruleTerms a_ruleLengths a_skips a_grammar a_ranks a_groupings a_text a_heads a_tails a_empties a_placeLetters a_followers a_ruleEnds a_sets a_steps a_classes a_finerClasses a_states a_moves xb a_lookaheads a_builtCounts a_builtSteps a_builtMatches a_builtSkips a_builtGrammar a_builtMoves a_builtActions a_tokenRules a_tokenBegins a_tokenEnds a_stackStates a_stackValues := by
  have hpc := hV.1
  intro d
  induction d with
  | zero =>
    intro p xb hp h
    have : p = pc := by omega
    subst this
    exact pk_le 8 p (fun _ => nm_r (nI_1 k) (H xb h)) (fun _ => pk_le p p (fun _ => nm_r (nI_1 k) (H xb h)) (fun z => absurd z (by omega)))
  | succ d ih =>
    intro p xb hp h
    have hL := hV.2.2.1 p (by omega)
    have hls := LW_r hs hV p (by omega)
    refine pk_le 8 p (fun z => absurd z (by omega)) (fun _ => pk_le pc p (fun z => absurd z (by omega)) (fun _ => ?_))
    rw [show nI p * 7 + 0 = nI (7 * p) from by rw [show (7 : Int32) = nI 7 from rfl, show (0 : Int32) = nI 0 from rfl, pk_mul, nI_add]; congr 1; omega, nI_clamp (by omega), (hX p (by omega)).1, show nI p * 4 = nI (4 * p + 0) from by rw [show (4 : Int32) = nI 4 from rfl, pk_mul]; congr 1; omega]
    refine ⟨vp_in_nI (by omega) (by omega), nm_r (e' := nI (L p - 10)) (by rw [show (10 : Int32) = nI 10 from rfl, pk_sub (by omega)]) ?_⟩
    rw [nI_clamp (show L p - 10 < 2 ^ 31 by omega)]
    have i3 : vp_in (nI (L p - 10)) 3 := vp_in_nI (by omega) (by omega)
    exact ⟨i3, xr_ (a_begins := xb) (by omega) (by omega) hV hX hls h ⟨i3, nm_e (nm_r (nI_1 p) (ih (p + 1) _ (by omega) (BR_p hV (by omega) hls h)))⟩⟩
theorem xf_22 {post : SX → Prop} {s : (Nat → Int32) × (Nat → Int32)} (hs : LW s) (hV : gr_V pc L W R) (hX : gr_X a_grammar L W R) (H : ∀ xb : Nat → Int32, BR xb (itr (rnd L W R pc) 19 s) → post (nI pc, f_textLength, f_anythingBuilt, f_tokenCount, f_parseValue, f_parsePlace, a_ruleTerms, a_ruleLengths, a_skips, a_grammar, a_ranks, a_groupings, a_text, a_heads, a_tails, a_empties, a_placeLetters, a_followers, a_ruleEnds, a_sets, a_steps, a_classes, a_finerClasses, a_states, a_moves, xb, a_lookaheads, a_builtCounts, a_builtSteps, a_builtMatches, a_builtSkips, a_builtGrammar, a_builtMoves, a_builtActions, a_tokenRules, a_tokenBegins, a_tokenEnds, a_stackStates, a_stackValues)) :
    ∀ d k (xb : Nat → Int32), k + d = 19 → BR xb (itr (rnd L W R pc) k s) → wX_findBegins_22 post (nI pc) f_textLength f_anythingBuilt f_tokenCount f_parseValue f_parsePlace (d + 1) (nI k) a_ruleTerms a_ruleLengths a_skips a_grammar a_ranks a_groupings a_text a_heads a_tails a_empties a_placeLetters a_followers a_ruleEnds a_sets a_steps a_classes a_finerClasses a_states a_moves xb a_lookaheads a_builtCounts a_builtSteps a_builtMatches a_builtSkips a_builtGrammar a_builtMoves a_builtActions a_tokenRules a_tokenBegins a_tokenEnds a_stackStates a_stackValues := by
  intro d
  induction d with
  | zero =>
    intro k xb hk h
    have : k = 19 := by omega
    subst this
    exact pk_le 19 19 (fun _ => H xb h) (fun z => absurd z (by omega))
  | succ d ih =>
    intro k xb hk h
    refine pk_le 19 k (fun z => absurd z (by omega)) (fun _ => ⟨pc + 1, xf_30 (LW_i hs hV k) hV hX (fun xb' h' => ih (k + 1) xb' (by omega) h') pc 0 xb (by omega) h⟩)
theorem xf_b2 {post : SX → Prop} (hV : gr_V pc L W R) (hX : gr_X a_grammar L W R) (H : ∀ xb : Nat → Int32, BR xb (itr (rnd L W R pc) 8 (fun _ => 0, fun _ => 0)) → post (nI pc, f_textLength, f_anythingBuilt, f_tokenCount, f_parseValue, f_parsePlace, a_ruleTerms, a_ruleLengths, a_skips, a_grammar, a_ranks, a_groupings, a_text, a_heads, a_tails, a_empties, a_placeLetters, a_followers, a_ruleEnds, a_sets, a_steps, a_classes, a_finerClasses, a_states, a_moves, xb, a_lookaheads, a_builtCounts, a_builtSteps, a_builtMatches, a_builtSkips, a_builtGrammar, a_builtMoves, a_builtActions, a_tokenRules, a_tokenBegins, a_tokenEnds, a_stackStates, a_stackValues)) :
    ∀ d n (xb : Nat → Int32), n + d = 3 → (∀ k, k < n → xb k = 0) → wX_findBegins_2 post (nI pc) f_textLength f_anythingBuilt f_tokenCount f_parseValue f_parsePlace (d + 1) (nI n) a_ruleTerms a_ruleLengths a_skips a_grammar a_ranks a_groupings a_text a_heads a_tails a_empties a_placeLetters a_followers a_ruleEnds a_sets a_steps a_classes a_finerClasses a_states a_moves xb a_lookaheads a_builtCounts a_builtSteps a_builtMatches a_builtSkips a_builtGrammar a_builtMoves a_builtActions a_tokenRules a_tokenBegins a_tokenEnds a_stackStates a_stackValues := by
  have hz : LW (fun _ => 0, fun _ => 0) := fun n _ => ⟨low_0, Or.inl rfl⟩
  intro d
  induction d with
  | zero =>
    intro n xb hn h
    have : n = 3 := by omega
    subst this
    refine pk_le 3 3 (fun _ => ⟨20, xf_22 hz hV hX (fun xb' h' => H xb' (fun n hn => ?_)) 19 0 xb (by omega) (fun n hn => ?_)⟩) (fun z => absurd z (by omega))
    · have := bg_eq hV hz hn
      rw [h' n hn, this.1, this.2]
    · rw [h n hn]; rfl
  | succ d ih =>
    intro n xb hn h
    refine pk_le 3 n (fun z => absurd z (by omega)) (fun _ => ⟨vp_in_nI (by omega) (by omega), ?_⟩)
    rw [nI_clamp (show n < 2 ^ 31 by omega)]
    refine nm_e (nm_r (nI_1 n) (ih (n + 1) _ (by omega) (fun k hk => ?_)))
    by_cases e : k = n
    · subst e; exact pk_us
    · rw [pk_un e]; exact h k (by omega)
theorem x_begins {post : SX → Prop} (hV : gr_V pc L W R) (hX : gr_X a_grammar L W R) (H : ∀ xb : Nat → Int32, BR xb (itr (rnd L W R pc) 8 (fun _ => 0, fun _ => 0)) → post (nI pc, f_textLength, f_anythingBuilt, f_tokenCount, f_parseValue, f_parsePlace, a_ruleTerms, a_ruleLengths, a_skips, a_grammar, a_ranks, a_groupings, a_text, a_heads, a_tails, a_empties, a_placeLetters, a_followers, a_ruleEnds, a_sets, a_steps, a_classes, a_finerClasses, a_states, a_moves, xb, a_lookaheads, a_builtCounts, a_builtSteps, a_builtMatches, a_builtSkips, a_builtGrammar, a_builtMoves, a_builtActions, a_tokenRules, a_tokenBegins, a_tokenEnds, a_stackStates, a_stackValues)) : wpX_findBegins post (nI pc, f_textLength, f_anythingBuilt, f_tokenCount, f_parseValue, f_parsePlace, a_ruleTerms, a_ruleLengths, a_skips, a_grammar, a_ranks, a_groupings, a_text, a_heads, a_tails, a_empties, a_placeLetters, a_followers, a_ruleEnds, a_sets, a_steps, a_classes, a_finerClasses, a_states, a_moves, a_begins, a_lookaheads, a_builtCounts, a_builtSteps, a_builtMatches, a_builtSkips, a_builtGrammar, a_builtMoves, a_builtActions, a_tokenRules, a_tokenBegins, a_tokenEnds, a_stackStates, a_stackValues) :=
  ⟨4, xf_b2 hV hX H 3 0 a_begins (by omega) (fun k hk => absurd hk (Nat.not_lt_zero _))⟩
end
section
variable {g_productions : Int32} {g_start : Int64} {g_sets g_states g_conflicts g_ready g_length g_tokens g_stuck g_scanned g_value g_place : Int32} {b_term b_size b_skipped b_left b_right b_width b_op b_constant b_rank b_grouping b_bTerm b_bSize b_bSkipped b_bLeft b_bWidth b_bOp b_bConstant : Nat → Int32} {b_follow b_ends b_first b_last : Nat → Int64} {b_none : Nat → Int32} {b_set : Nat → Int64} {b_leads b_apart : Nat → Int32} {b_state : Nat → Int64} {b_to b_look b_begins b_nullable b_act b_built b_leadTo b_text b_fits b_token b_stack b_worth : Nat → Int32} {pc : Nat} {L W : Nat → Nat} {R : Nat → Nat → Nat}
theorem YR_p {yb ny : Nat → Int32} {s : (Nat → Int32) × (Nat → Int32)} {p : Nat} (hL : L p - 10 < 3) (h : YR yb ny s) : YR (upd yb (L p - 10) (yb (L p - 10) ||| (rst W R s p 0).1)) (if (rst W R s p 0).2 then upd ny (L p - 10) 1 else ny) (pstp L W R p s) := by
  intro n hn
  unfold pstp
  dsimp only
  refine ⟨?_, ?_⟩
  · by_cases e : n = L p - 10
    · subst e; rw [pk_us, pk_us, (h _ hn).1]
    · rw [pk_un e, pk_un e]; exact (h n hn).1
  · split
    · by_cases e : n = L p - 10
      · subst e; rw [pk_us, pk_us]
      · rw [pk_un e, pk_un e]; exact (h n hn).2
    · exact (h n hn).2
theorem yf_37 {post : SY → Prop} {J29 : Int32 → (Nat → Int32) → (Nat → Int32) → (Nat → Int32) → (Nat → Int32) → (Nat → Int32) → (Nat → Int32) → (Nat → Int32) → (Nat → Int32) → (Nat → Int32) → (Nat → Int32) → (Nat → Int32) → (Nat → Int32) → (Nat → Int32) → (Nat → Int32) → (Nat → Int32) → (Nat → Int32) → (Nat → Int32) → (Nat → Int64) → (Nat → Int64) → (Nat → Int64) → (Nat → Int64) → (Nat → Int32) → (Nat → Int64) → (Nat → Int32) → (Nat → Int32) → (Nat → Int64) → (Nat → Int32) → (Nat → Int32) → (Nat → Int32) → (Nat → Int32) → (Nat → Int32) → (Nat → Int32) → (Nat → Int32) → (Nat → Int32) → (Nat → Int32) → (Nat → Int32) → (Nat → Int32) → (Nat → Int32) → Prop} {k : Nat} {s : (Nat → Int32) × (Nat → Int32)} (hs : LW s) (hV : gr_V pc L W R) (hY : gr_Y b_left b_right b_width L W R) (H : ∀ yb ny : Nat → Int32, YR yb ny (rnd L W R pc s) → J29 (nI (k + 1)) b_term b_size b_skipped b_left b_right b_width b_op b_constant b_rank b_grouping b_bTerm b_bSize b_bSkipped b_bLeft b_bWidth b_bOp b_bConstant b_follow b_ends b_first b_last b_none b_set b_leads b_apart b_state b_to b_look yb ny b_act b_built b_leadTo b_text b_fits b_token b_stack b_worth) :
    ∀ d p (yb ny : Nat → Int32), p + d = pc → YR yb ny (rnd L W R p s) → wY_beginningsOf_37 post J29 (nI k) (nI pc) g_start g_sets g_states g_conflicts g_ready g_length g_tokens g_stuck g_scanned g_value g_place (d + 1) (nI p) b_term b_size b_skipped b_left b_right b_width b_op b_constant b_rank b_grouping b_bTerm b_bSize b_bSkipped b_bLeft b_bWidth b_bOp b_bConstant b_follow b_ends b_first b_last b_none b_set b_leads b_apart b_state b_to b_look yb ny b_act b_built b_leadTo b_text b_fits b_token b_stack b_worth := by
  have hpc := hV.1
  intro d
  induction d with
  | zero =>
    intro p yb ny hp h
    have : p = pc := by omega
    subst this
    exact pk_le p p (fun _ => nm_r (nI_1 k) (H yb ny h)) (fun z => absurd z (by omega))
  | succ d ih =>
    intro p yb ny hp h
    have hL := hV.2.2.1 p (by omega)
    have hls := LW_r hs hV p (by omega)
    have ih' := ih (p + 1) _ _ (by omega) (YR_p (W := W) (R := R) (show L p - 10 < 3 by omega) h)
    refine pk_le pc p (fun z => absurd z (by omega)) (fun _ => yr_b (b_begins := yb) (b_nullable := ny) (k := 0) (by omega) (by omega) hV hY h ?_)
    rw [nI_clamp (show p < 2 ^ 31 by omega), (hY p (by omega)).1, show nI (L p) - 10 = nI (L p - 10) from by rw [show (10 : Int32) = nI 10 from rfl, pk_sub (by omega)], nI_clamp (show L p - 10 < 2 ^ 31 by omega)]
    have i3 : vp_in (nI (L p - 10)) 3 := vp_in_nI (by omega) (by omega)
    have i9 : vp_in (nI p) 9 := vp_in_nI (by omega) (by omega)
    obtain ⟨m, hm, em⟩ := lo_n (rst_low (W := W) (R := R) hls hV (p := p) (k := 0))
    unfold rsv
    rw [em] at ih' ⊢
    cases hE : (rst W R (rnd L W R p s) p 0).2 with
    | false =>
      rw [hE, if_neg (show ¬ (false = true) by decide)] at ih'
      rw [if_neg (show ¬ (false = true) by decide)]
      have h15 : nI m &&& 15 = nI m := lo_15 (by rw [← em]; exact rst_low hls hV)
      rw [h15]
      exact ⟨i9, i3, i3, nm_e (br_t (nI_le (b := 31) (by omega) (by omega)) (nm_r (nI_1 p) ih'))⟩
    | true =>
      rw [hE, if_pos rfl] at ih'
      rw [if_pos rfl]
      obtain ⟨o1, o2⟩ := lo_or m hm
      rw [o2, o1]
      exact ⟨i9, i3, i3, nm_e (br_f (nI_ge (a := 31) (by omega) (by omega)) ⟨i9, i3, nm_e (nm_r (nI_1 p) ih')⟩)⟩
theorem yf_29 {post : SY → Prop} {s : (Nat → Int32) × (Nat → Int32)} (hs : LW s) (hV : gr_V pc L W R) (hY : gr_Y b_left b_right b_width L W R) (H : ∀ yb ny : Nat → Int32, YR yb ny (itr (rnd L W R pc) 8 s) → post (nI pc, g_start, g_sets, g_states, g_conflicts, g_ready, g_length, g_tokens, g_stuck, g_scanned, g_value, g_place, b_term, b_size, b_skipped, b_left, b_right, b_width, b_op, b_constant, b_rank, b_grouping, b_bTerm, b_bSize, b_bSkipped, b_bLeft, b_bWidth, b_bOp, b_bConstant, b_follow, b_ends, b_first, b_last, b_none, b_set, b_leads, b_apart, b_state, b_to, b_look, yb, ny, b_act, b_built, b_leadTo, b_text, b_fits, b_token, b_stack, b_worth)) :
    ∀ d k (yb ny : Nat → Int32), k + d = 8 → YR yb ny (itr (rnd L W R pc) k s) → wY_beginningsOf_29 post (nI pc) g_start g_sets g_states g_conflicts g_ready g_length g_tokens g_stuck g_scanned g_value g_place (d + 1) (nI k) b_term b_size b_skipped b_left b_right b_width b_op b_constant b_rank b_grouping b_bTerm b_bSize b_bSkipped b_bLeft b_bWidth b_bOp b_bConstant b_follow b_ends b_first b_last b_none b_set b_leads b_apart b_state b_to b_look yb ny b_act b_built b_leadTo b_text b_fits b_token b_stack b_worth := by
  intro d
  induction d with
  | zero =>
    intro k yb ny hk h
    have : k = 8 := by omega
    subst this
    exact pk_le 8 8 (fun _ => H yb ny h) (fun z => absurd z (by omega))
  | succ d ih =>
    intro k yb ny hk h
    refine pk_le 8 k (fun z => absurd z (by omega)) (fun _ => ⟨pc + 1, yf_37 (LW_i hs hV k) hV hY (fun yb' ny' h' => ih (k + 1) yb' ny' (by omega) h') pc 0 yb ny (by omega) h⟩)
theorem yf_2 {post : SY → Prop} (hV : gr_V pc L W R) (hY : gr_Y b_left b_right b_width L W R) (H : ∀ yb ny : Nat → Int32, YR yb ny (itr (rnd L W R pc) 8 (fun _ => 0, fun _ => 0)) → post (nI pc, g_start, g_sets, g_states, g_conflicts, g_ready, g_length, g_tokens, g_stuck, g_scanned, g_value, g_place, b_term, b_size, b_skipped, b_left, b_right, b_width, b_op, b_constant, b_rank, b_grouping, b_bTerm, b_bSize, b_bSkipped, b_bLeft, b_bWidth, b_bOp, b_bConstant, b_follow, b_ends, b_first, b_last, b_none, b_set, b_leads, b_apart, b_state, b_to, b_look, yb, ny, b_act, b_built, b_leadTo, b_text, b_fits, b_token, b_stack, b_worth)) :
    ∀ d n (yb ny : Nat → Int32), n + d = 3 → (∀ k, k < n → yb k = 0 ∧ ny k = 0) → wY_beginningsOf_2 post (nI pc) g_start g_sets g_states g_conflicts g_ready g_length g_tokens g_stuck g_scanned g_value g_place (d + 1) (nI n) b_term b_size b_skipped b_left b_right b_width b_op b_constant b_rank b_grouping b_bTerm b_bSize b_bSkipped b_bLeft b_bWidth b_bOp b_bConstant b_follow b_ends b_first b_last b_none b_set b_leads b_apart b_state b_to b_look yb ny b_act b_built b_leadTo b_text b_fits b_token b_stack b_worth := by
  have hz : LW (fun _ => 0, fun _ => 0) := fun n _ => ⟨low_0, Or.inl rfl⟩
  intro d
  induction d with
  | zero =>
    intro n yb ny hn h
    have : n = 3 := by omega
    subst this
    exact pk_le 3 3 (fun _ => ⟨9, yf_29 hz hV hY H 8 0 yb ny (by omega) h⟩) (fun z => absurd z (by omega))
  | succ d ih =>
    intro n yb ny hn h
    have i3 : vp_in (nI n) 3 := vp_in_nI (by omega) (by omega)
    refine pk_le 3 n (fun z => absurd z (by omega)) (fun _ => ⟨i3, ?_⟩)
    rw [nI_clamp (show n < 2 ^ 31 by omega)]
    refine nm_e ⟨i3, nm_e (nm_r (nI_1 n) (ih (n + 1) _ _ (by omega) (fun k hk => ?_)))⟩
    by_cases e : k = n
    · subst e; exact ⟨pk_us, pk_us⟩
    · rw [pk_un e, pk_un e]; exact h k (by omega)
theorem y_begins {post : SY → Prop} (hV : gr_V pc L W R) (hY : gr_Y b_left b_right b_width L W R) (H : ∀ yb ny : Nat → Int32, YR yb ny (itr (rnd L W R pc) 8 (fun _ => 0, fun _ => 0)) → post (nI pc, g_start, g_sets, g_states, g_conflicts, g_ready, g_length, g_tokens, g_stuck, g_scanned, g_value, g_place, b_term, b_size, b_skipped, b_left, b_right, b_width, b_op, b_constant, b_rank, b_grouping, b_bTerm, b_bSize, b_bSkipped, b_bLeft, b_bWidth, b_bOp, b_bConstant, b_follow, b_ends, b_first, b_last, b_none, b_set, b_leads, b_apart, b_state, b_to, b_look, yb, ny, b_act, b_built, b_leadTo, b_text, b_fits, b_token, b_stack, b_worth)) : wpY_beginningsOf post (nI pc, g_start, g_sets, g_states, g_conflicts, g_ready, g_length, g_tokens, g_stuck, g_scanned, g_value, g_place, b_term, b_size, b_skipped, b_left, b_right, b_width, b_op, b_constant, b_rank, b_grouping, b_bTerm, b_bSize, b_bSkipped, b_bLeft, b_bWidth, b_bOp, b_bConstant, b_follow, b_ends, b_first, b_last, b_none, b_set, b_leads, b_apart, b_state, b_to, b_look, b_begins, b_nullable, b_act, b_built, b_leadTo, b_text, b_fits, b_token, b_stack, b_worth) :=
  ⟨4, yf_2 hV hY H 3 0 b_begins b_nullable (by omega) (fun k hk => absurd hk (Nat.not_lt_zero _))⟩
end
end
section
/-! lookaheads: the pure picture -/
def adL (la : Nat → Nat → Int32) (s i : Nat) (v : Int32) : Nat → Nat → Int32 := fun p q => if p = s ∧ q = i then la s i ||| v else la p q
def add_ (s i : Nat) (v : Int32) (z : (Nat → Nat → Int32) × Bool) : (Nat → Nat → Int32) × Bool := (adL z.1 s i v, z.2 || !((z.1 s i ||| v) == z.1 s i))
section
variable (pc : Nat) (L W : Nat → Nat) (R : Nat → Nat → Nat) (bs : (Nat → Int32) × (Nat → Int32)) (G : Nat → Int64) (M : Nat → Int32)
def fldP (s x : Nat) (v : Int32) : Nat → (Nat → Nat → Int32) × Bool → (Nat → Nat → Int32) × Bool
  | 0, z => z
  | p + 1, z => if L p = x then add_ s (4 * p) v (fldP s x v p z) else fldP s x v p z
def hO (s i : Nat) (la : Nat → Nat → Int32) : (Nat → Nat → Int32) × Bool :=
  if i % 4 < W (i / 4) then
    (if R (i / 4) (i % 4) < 10 then add_ (M (7 * s + col (R (i / 4) (i % 4)))).toNatClampNeg (i + 1) (la s i) (la, false)
      else fldP L s (R (i / 4) (i % 4)) (rsv (rst W R bs (i / 4) (i % 4 + 1)) (la s i)) pc (add_ (M (7 * s + col (R (i / 4) (i % 4)))).toNatClampNeg (i + 1) (la s i) (la, false)))
  else (la, false)
def rowL (s : Nat) : Nat → (Nat → Nat → Int32) × Bool → (Nat → Nat → Int32) × Bool
  | 0, z => z
  | i + 1, z => if bl (G s) i then ((hO pc L W R bs M s i (rowL s i z).1).1, (rowL s i z).2 || (hO pc L W R bs M s i (rowL s i z).1).2) else rowL s i z
def allL : Nat → (Nat → Nat → Int32) × Bool → (Nat → Nat → Int32) × Bool
  | 0, z => z
  | s + 1, z => rowL pc L W R bs G M s 34 (allL s z)
def laK (ns : Nat) : Nat → Nat → Nat → Int32
  | 0 => fun s i => if s = 0 ∧ i = 32 then 16 else 0
  | k + 1 => (allL pc L W R bs G M ns (laK ns k, false)).1
end
def L5 (la : Nat → Nat → Int32) : Prop := ∀ s i t, 5 ≤ t → bt (la s i) t = false
def Gw (z w : (Nat → Nat → Int32) × Bool) : Prop :=
  (∀ s i t, bt (z.1 s i) t = true → bt (w.1 s i) t = true) ∧ (z.2 = true → w.2 = true) ∧ (w.2 = true → z.2 = true ∨ ∃ s i t, s < 40 ∧ i < 34 ∧ t < 5 ∧ bt (z.1 s i) t = false ∧ bt (w.1 s i) t = true)
theorem Gw_r (z : (Nat → Nat → Int32) × Bool) : Gw z z := ⟨fun _ _ _ h => h, id, Or.inl⟩
theorem Gw_t {a b c : (Nat → Nat → Int32) × Bool} (h : Gw a b) (g : Gw b c) : Gw a c := by
  refine ⟨fun s i t x => g.1 s i t (h.1 s i t x), fun x => g.2.1 (h.2.1 x), fun x => ?_⟩
  rcases g.2.2 x with y | ⟨s, i, t, h1, h2, h3, h4, h5⟩
  · rcases h.2.2 y with y | ⟨s, i, t, h1, h2, h3, h4, h5⟩
    · exact Or.inl y
    · exact Or.inr ⟨s, i, t, h1, h2, h3, h4, g.1 s i t h5⟩
  · refine Or.inr ⟨s, i, t, h1, h2, h3, ?_, h5⟩
    cases e : bt (a.1 s i) t with
    | false => rfl
    | true => rw [h.1 s i t e] at h4; exact absurd h4 (by decide)
theorem add_5 {s i : Nat} {v : Int32} {z : (Nat → Nat → Int32) × Bool} (h : L5 z.1) (hv : ∀ t, 5 ≤ t → bt v t = false) : L5 (add_ s i v z).1 := by
  intro p q t ht
  unfold add_ adL
  dsimp only
  split
  · rw [b_or, h s i t ht, hv t ht]; rfl
  · exact h p q t ht
theorem add_g {s i : Nat} {v : Int32} {z : (Nat → Nat → Int32) × Bool} (h : L5 z.1) (hv : ∀ t, 5 ≤ t → bt v t = false) (hs : s < 40) (hi : i < 34) : Gw z (add_ s i v z) := by
  refine ⟨fun p q t x => ?_, fun x => ?_, fun x => ?_⟩
  · unfold add_ adL
    dsimp only
    split
    · next c => obtain ⟨rfl, rfl⟩ := c; rw [b_or, x]; rfl
    · exact x
  · unfold add_; dsimp only; rw [x]; rfl
  · unfold add_ at x
    dsimp only at x
    rw [Bool.or_eq_true] at x
    rcases x with x | x
    · exact Or.inl x
    · refine Or.inr ?_
      have hne : (z.1 s i ||| v) ≠ z.1 s i := by simpa using x
      have : ∃ t, bt (z.1 s i) t = false ∧ bt (z.1 s i ||| v) t = true := by
        refine Classical.byContradiction (fun hno => hne (b_ext fun t _ => ?_))
        cases e : bt (z.1 s i) t with
        | true => rw [b_or, e]; rfl
        | false =>
          cases e2 : bt (z.1 s i ||| v) t with
          | false => rfl
          | true => exact absurd ⟨t, e, e2⟩ hno
      obtain ⟨t, h1, h2⟩ := this
      refine ⟨s, i, t, hs, hi, ?_, h1, ?_⟩
      · rcases Nat.lt_or_ge t 5 with c | c
        · exact c
        · rw [b_or, h s i t c, hv t c] at h2; exact absurd h2 (by decide)
      · unfold add_ adL; dsimp only; rw [if_pos ⟨rfl, rfl⟩]; exact h2
section
variable {pc : Nat} {L W : Nat → Nat} {R : Nat → Nat → Nat} {bs : (Nat → Int32) × (Nat → Int32)} {G : Nat → Int64} {M : Nat → Int32}
theorem fld_5 {s x : Nat} {v : Int32} {z : (Nat → Nat → Int32) × Bool} (h : L5 z.1) (hv : ∀ t, 5 ≤ t → bt v t = false) (hs : s < 40) : ∀ p, p ≤ 8 → L5 (fldP L s x v p z).1 ∧ Gw z (fldP L s x v p z)
  | 0, _ => ⟨h, Gw_r z⟩
  | p + 1, hp => by
    obtain ⟨h1, h2⟩ := fld_5 h hv hs p (by omega)
    unfold fldP
    split
    · exact ⟨add_5 h1 hv, Gw_t h2 (add_g h1 hv hs (by omega))⟩
    · exact ⟨h1, h2⟩
/-- where the states' items lead, and that all is within -/
def laH (pc ns : Nat) (L W : Nat → Nat) (R : Nat → Nat → Nat) (bs : (Nat → Int32) × (Nat → Int32)) (G : Nat → Int64) (M : Nat → Int32) : Prop :=
  gr_V pc L W R ∧ LW bs ∧ ns ≤ 40 ∧ (∀ s j, s < ns → 34 ≤ j → bl (G s) j = false) ∧ (∀ s i, s < ns → i < 34 → bl (G s) i = true → i % 4 < W (i / 4) → ∃ t, t < ns ∧ M (7 * s + col (R (i / 4) (i % 4))) = nI t)
theorem rsv_5 (hV : gr_V pc L W R) (hb : LW bs) {p k : Nat} {own : Int32} (ho : ∀ t, 5 ≤ t → bt own t = false) : ∀ t, 5 ≤ t → bt (rsv (rst W R bs p k) own) t = false := by
  intro t ht
  have hl := rst_low (W := W) (R := R) hb hV (p := p) (k := k) t (by omega)
  unfold rsv
  split
  · rw [b_or, hl, ho t ht]; rfl
  · exact hl
theorem i33 (hV : gr_V pc L W R) {i : Nat} (hi : i < 34) (c : i % 4 < W (i / 4)) : i + 1 < 34 ∧ (i + 1) % 4 ≠ 0 ∧ i / 4 < 9 ∧ i % 4 + 1 ≤ W (i / 4) ∧ (i + 1) / 4 = i / 4 := by
  have hw := (hV.2.1 (i / 4)).2.1
  have h8 := hV.2.2.2.2.1
  by_cases e : i / 4 = 8
  · have h81 : W (i / 4) = 1 := by rw [e, h8]
    exact ⟨by omega, by omega, by omega, by omega, by omega⟩
  · exact ⟨by omega, by omega, by omega, by omega, by omega⟩
theorem hO_5 {ns : Nat} (H : laH pc ns L W R bs G M) {s i : Nat} (hs : s < ns) (hi : i < 34) (hb : bl (G s) i = true) {la : Nat → Nat → Int32} (h : L5 la) : L5 (hO pc L W R bs M s i la).1 ∧ Gw (la, false) (hO pc L W R bs M s i la) := by
  obtain ⟨hV, hbs, hns, h34, hT⟩ := H
  unfold hO
  by_cases c : i % 4 < W (i / 4)
  · rw [if_pos c]
    obtain ⟨t, ht, et⟩ := hT s i hs hi hb c
    have hi1 := (i33 hV hi c).1
    rw [et, nI_clamp (by omega)]
    have a1 := add_5 (z := (la, false)) (s := t) (i := i + 1) h (h s i)
    have a2 := add_g (z := (la, false)) (s := t) (i := i + 1) h (h s i) (by omega) hi1
    split
    · exact ⟨a1, a2⟩
    · obtain ⟨b1, b2⟩ := fld_5 (L := L) (s := s) (x := R (i / 4) (i % 4)) a1 (rsv_5 hV hbs (p := i / 4) (k := i % 4 + 1) (h s i)) (by omega) pc hV.1
      exact ⟨b1, Gw_t a2 b2⟩
  · rw [if_neg c]; exact ⟨h, Gw_r _⟩
theorem rowL_5 {ns : Nat} (H : laH pc ns L W R bs G M) {s : Nat} (hs : s < ns) {z : (Nat → Nat → Int32) × Bool} (h : L5 z.1) : ∀ i, i ≤ 34 → L5 (rowL pc L W R bs G M s i z).1 ∧ Gw z (rowL pc L W R bs G M s i z)
  | 0, _ => ⟨h, Gw_r z⟩
  | i + 1, hi => by
    obtain ⟨h1, h2⟩ := rowL_5 H hs h i (by omega)
    unfold rowL
    split
    · next c =>
      obtain ⟨g1, g2⟩ := hO_5 H hs (by omega) c h1
      refine ⟨g1, Gw_t h2 ⟨g2.1, fun x => by dsimp only; rw [x]; rfl, fun x => ?_⟩⟩
      dsimp only at x
      rw [Bool.or_eq_true] at x
      rcases x with x | x
      · exact Or.inl x
      · exact (g2.2.2 x).elim (fun y => absurd y (show ¬ (false = true) by decide)) Or.inr
    · exact ⟨h1, h2⟩
theorem allL_5 {ns : Nat} (H : laH pc ns L W R bs G M) {z : (Nat → Nat → Int32) × Bool} (h : L5 z.1) : ∀ s, s ≤ ns → L5 (allL pc L W R bs G M s z).1 ∧ Gw z (allL pc L W R bs G M s z)
  | 0, _ => ⟨h, Gw_r z⟩
  | s + 1, hs => by
    obtain ⟨h1, h2⟩ := allL_5 H h s (by omega)
    obtain ⟨g1, g2⟩ := rowL_5 H (show s < ns by omega) h1 34 (Nat.le_refl _)
    exact ⟨g1, Gw_t h2 g2⟩
end
/-! the rounds end -/
def cb (f : Nat → Bool) : Nat → Nat
  | 0 => 0
  | n + 1 => cb f n + (if f n then 1 else 0)
theorem cb_le (f : Nat → Bool) : ∀ n, cb f n ≤ n
  | 0 => Nat.le_refl _
  | n + 1 => by have := cb_le f n; show cb f n + (if f n then 1 else 0) ≤ n + 1; split <;> omega
theorem cb_m {f g : Nat → Bool} (h : ∀ k, f k = true → g k = true) : ∀ n, cb f n ≤ cb g n
  | 0 => Nat.le_refl _
  | n + 1 => by
    have := cb_m h n
    show cb f n + (if f n then 1 else 0) ≤ cb g n + (if g n then 1 else 0)
    by_cases c : f n = true
    · rw [if_pos c, if_pos (h n c)]; omega
    · rw [if_neg c]; split <;> omega
theorem cb_s {f g : Nat → Bool} (h : ∀ k, f k = true → g k = true) {k : Nat} (h1 : f k = false) (h2 : g k = true) : ∀ n, k < n → cb f n < cb g n
  | 0, hk => absurd hk (Nat.not_lt_zero _)
  | n + 1, hk => by
    show cb f n + (if f n then 1 else 0) < cb g n + (if g n then 1 else 0)
    by_cases e : k = n
    · subst e
      have := cb_m h k
      rw [if_neg (by rw [h1]; decide), if_pos h2]; omega
    · have := cb_s h h1 h2 n (by omega)
      by_cases c : f n = true
      · rw [if_pos c, if_pos (h n c)]; omega
      · rw [if_neg c]; split <;> omega
def mu_ (la : Nat → Nat → Int32) : Nat := cb (fun k => bt (la (k / 5 / 34) (k / 5 % 34)) (k % 5)) 6800
theorem mu_lt {z w : (Nat → Nat → Int32) × Bool} (h : Gw z w) (h0 : z.2 = false) (h1 : w.2 = true) : mu_ z.1 < mu_ w.1 := by
  rcases h.2.2 h1 with y | ⟨s, i, t, a, b, c, d, e⟩
  · rw [h0] at y; exact absurd y (by decide)
  · refine cb_s (k := 5 * (34 * s + i) + t) (fun k x => h.1 _ _ _ x) ?_ ?_ 6800 (by omega)
    · rw [show (5 * (34 * s + i) + t) / 5 / 34 = s by omega, show (5 * (34 * s + i) + t) / 5 % 34 = i by omega, show (5 * (34 * s + i) + t) % 5 = t by omega]; exact d
    · rw [show (5 * (34 * s + i) + t) / 5 / 34 = s by omega, show (5 * (34 * s + i) + t) / 5 % 34 = i by omega, show (5 * (34 * s + i) + t) % 5 = t by omega]; exact e
section
variable {pc : Nat} {L W : Nat → Nat} {R : Nat → Nat → Nat} {bs : (Nat → Int32) × (Nat → Int32)} {G : Nat → Int64} {M : Nat → Int32}
theorem laK_5 {ns : Nat} (H : laH pc ns L W R bs G M) : ∀ k, L5 (laK pc L W R bs G M ns k)
  | 0 => by
    intro s i t ht
    unfold laK
    split
    · by_cases c : t < 32
      · have : ∀ t, t < 32 → 5 ≤ t → bt 16 t = false := by decide +kernel
        exact this t c ht
      · exact b_big (by omega)
    · exact b_0 t
  | k + 1 => (allL_5 H (z := (laK pc L W R bs G M ns k, false)) (laK_5 H k) ns (Nat.le_refl _)).1
/-- some round within 6800 brings nothing new, and all before it do -/
theorem la_end {ns : Nat} (H : laH pc ns L W R bs G M) : ∃ N, N ≤ 6800 ∧ (∀ k, k < N → (allL pc L W R bs G M ns (laK pc L W R bs G M ns k, false)).2 = true) ∧ (allL pc L W R bs G M ns (laK pc L W R bs G M ns N, false)).2 = false := by
  have ex : ∃ N, (allL pc L W R bs G M ns (laK pc L W R bs G M ns N, false)).2 = false ∧ N ≤ 6800 := by
    refine Classical.byContradiction (fun hno => ?_)
    have hall : ∀ N, N ≤ 6800 → (allL pc L W R bs G M ns (laK pc L W R bs G M ns N, false)).2 = true := by
      intro N hN
      cases e : (allL pc L W R bs G M ns (laK pc L W R bs G M ns N, false)).2 with
      | true => rfl
      | false => exact absurd ⟨N, e, hN⟩ hno
    have gr : ∀ N, N ≤ 6801 → N ≤ mu_ (laK pc L W R bs G M ns N) := by
      intro N
      induction N with
      | zero => intro _; exact Nat.zero_le _
      | succ N ih =>
        intro hN
        have h1 := ih (by omega)
        have h2 := mu_lt (allL_5 H (z := (laK pc L W R bs G M ns N, false)) (laK_5 H N) ns (Nat.le_refl _)).2 rfl (hall N (by omega))
        have h3 : mu_ (laK pc L W R bs G M ns N) < mu_ (laK pc L W R bs G M ns (N + 1)) := h2
        omega
    have h1 := gr 6801 (Nat.le_refl _)
    have h2 : mu_ (laK pc L W R bs G M ns 6801) ≤ 6800 := cb_le _ _
    omega
  obtain ⟨N, h1, h2⟩ := ex
  obtain ⟨K, ⟨k1, k2⟩, k3⟩ := pk_least (fun N => (allL pc L W R bs G M ns (laK pc L W R bs G M ns N, false)).2 = false ∧ N ≤ 6800) ⟨N, h1, h2⟩
  refine ⟨K, k2, fun k hk => ?_, k1⟩
  cases e : (allL pc L W R bs G M ns (laK pc L W R bs G M ns k, false)).2 with
  | true => rfl
  | false => exact absurd ⟨e, by omega⟩ (k3 k hk)
end
end
section
/-! lookaheads: the component -/
def XL (a : Nat → Int32) (la : Nat → Nat → Int32) : Prop := ∀ s i, s < 40 → i < 34 → a (34 * s + i) = la s i
theorem b2_n (g : Bool) : narrow .boolean (.int (b2 g)) = .int (b2 g) := by cases g <;> rfl
theorem XL_a {a : Nat → Int32} {la : Nat → Nat → Int32} (h : XL a la) {t i : Nat} {v : Int32} (hi : i < 34) : XL (upd a (34 * t + i) (la t i ||| v)) (adL la t i v) := by
  intro p q hp hq
  unfold adL
  by_cases e : p = t ∧ q = i
  · rw [if_pos e]; obtain ⟨rfl, rfl⟩ := e; exact pk_us
  · rw [if_neg e, pk_un (by omega)]; exact h p q hp hq
section
variable {f_productionCount f_textLength f_anythingBuilt f_tokenCount f_parseValue f_parsePlace : Int32} {a_ruleTerms a_ruleLengths a_skips a_grammar a_ranks a_groupings a_text a_heads a_tails a_empties a_placeLetters a_followers a_ruleEnds : Nat → Int32} {a_sets : Nat → Int64} {a_steps a_classes a_finerClasses : Nat → Int32} {a_states : Nat → Int64} {a_moves a_begins a_lookaheads a_builtCounts a_builtSteps a_builtMatches a_builtSkips a_builtGrammar a_builtMoves a_builtActions a_tokenRules a_tokenBegins a_tokenEnds a_stackStates a_stackValues : Nat → Int32} {pc ns : Nat} {L W : Nat → Nat} {R : Nat → Nat → Nat} {bs : (Nat → Int32) × (Nat → Int32)} {G : Nat → Int64} {M : Nat → Int32}
theorem xad {post : Int32 → SX → Prop} {t i : Nat} {v : Int32} {la : Nat → Nat → Int32} (ht : t < 40) (hi : i < 34) (hl : XL a_lookaheads la)
    (H : post (b2 (!((la t i ||| v) == la t i))) (f_productionCount, f_textLength, f_anythingBuilt, f_tokenCount, f_parseValue, f_parsePlace, a_ruleTerms, a_ruleLengths, a_skips, a_grammar, a_ranks, a_groupings, a_text, a_heads, a_tails, a_empties, a_placeLetters, a_followers, a_ruleEnds, a_sets, a_steps, a_classes, a_finerClasses, a_states, a_moves, a_begins, upd a_lookaheads (34 * t + i) (la t i ||| v), a_builtCounts, a_builtSteps, a_builtMatches, a_builtSkips, a_builtGrammar, a_builtMoves, a_builtActions, a_tokenRules, a_tokenBegins, a_tokenEnds, a_stackStates, a_stackValues)) : wpX_addLookaheads post (f_productionCount, f_textLength, f_anythingBuilt, f_tokenCount, f_parseValue, f_parsePlace, a_ruleTerms, a_ruleLengths, a_skips, a_grammar, a_ranks, a_groupings, a_text, a_heads, a_tails, a_empties, a_placeLetters, a_followers, a_ruleEnds, a_sets, a_steps, a_classes, a_finerClasses, a_states, a_moves, a_begins, a_lookaheads, a_builtCounts, a_builtSteps, a_builtMatches, a_builtSkips, a_builtGrammar, a_builtMoves, a_builtActions, a_tokenRules, a_tokenBegins, a_tokenEnds, a_stackStates, a_stackValues) (nI t) (nI i) v := by
  have ei : nI t * 34 + nI i = nI (34 * t + i) := by rw [show (34 : Int32) = nI 34 from rfl, pk_mul, nI_add]; congr 1; omega
  have ii : vp_in (nI (34 * t + i)) 1360 := vp_in_nI (by omega) (by omega)
  unfold wpX_addLookaheads
  dsimp only
  rw [ei]
  refine nm_e ?_
  rw [nI_clamp (by omega), hl t i ht hi]
  refine ⟨ii, nm_e ⟨ii, nm_e ⟨ii, ?_⟩⟩⟩
  rw [pk_us]
  refine br_c (fun e => ?_) (fun e => ?_)
  · rw [show ((la t i ||| v) == la t i) = true from by rw [e]; simp] at H; exact H
  · rw [show ((la t i ||| v) == la t i) = false from beq_eq_false_iff_ne.mpr e] at H; exact H
theorem xh_94 {post : Int32 → SX → Prop} {s x : Nat} {v : Int32} {z1 : (Nat → Nat → Int32) × Bool} (hs : s < 40) (hx : x < 13) (hV : gr_V pc L W R) (hX : gr_X a_grammar L W R)
    (H : ∀ a : Nat → Int32, XL a (fldP L s x v pc z1).1 → post (b2 (fldP L s x v pc z1).2) (nI pc, f_textLength, f_anythingBuilt, f_tokenCount, f_parseValue, f_parsePlace, a_ruleTerms, a_ruleLengths, a_skips, a_grammar, a_ranks, a_groupings, a_text, a_heads, a_tails, a_empties, a_placeLetters, a_followers, a_ruleEnds, a_sets, a_steps, a_classes, a_finerClasses, a_states, a_moves, a_begins, a, a_builtCounts, a_builtSteps, a_builtMatches, a_builtSkips, a_builtGrammar, a_builtMoves, a_builtActions, a_tokenRules, a_tokenBegins, a_tokenEnds, a_stackStates, a_stackValues)) :
    ∀ d p (a : Nat → Int32), p + d = pc → XL a (fldP L s x v p z1).1 → wX_handOn_94 post (nI s) (nI x) v (d + 1) (b2 (fldP L s x v p z1).2) (nI p) (nI pc) f_textLength f_anythingBuilt f_tokenCount f_parseValue f_parsePlace a_ruleTerms a_ruleLengths a_skips a_grammar a_ranks a_groupings a_text a_heads a_tails a_empties a_placeLetters a_followers a_ruleEnds a_sets a_steps a_classes a_finerClasses a_states a_moves a_begins a a_builtCounts a_builtSteps a_builtMatches a_builtSkips a_builtGrammar a_builtMoves a_builtActions a_tokenRules a_tokenBegins a_tokenEnds a_stackStates a_stackValues := by
  have hpc := hV.1
  intro d
  induction d with
  | zero =>
    intro p a hp h
    have : p = pc := by omega
    subst this
    exact pk_le 8 p (fun _ => ⟨b2_n _, H a h⟩) (fun _ => pk_le p p (fun _ => ⟨b2_n _, H a h⟩) (fun z => absurd z (by omega)))
  | succ d ih =>
    intro p a hp h
    have hL := (hV.2.1 p).1
    have ih' := ih (p + 1)
    rw [fldP] at ih'
    refine pk_le 8 p (fun z => absurd z (by omega)) (fun _ => pk_le pc p (fun z => absurd z (by omega)) (fun _ => ?_))
    rw [show nI p * 7 + 0 = nI (7 * p) from by rw [show (7 : Int32) = nI 7 from rfl, show (0 : Int32) = nI 0 from rfl, pk_mul, nI_add]; congr 1; omega, nI_clamp (by omega), (hX p (by omega)).1, show nI p * 4 = nI (4 * p) from by rw [show (4 : Int32) = nI 4 from rfl, pk_mul]; congr 1; omega]
    refine ⟨vp_in_nI (by omega) (by omega), pk_eq (L p) x (fun e => ?_) (fun e => ?_)⟩
    · rw [if_pos e] at ih'
      generalize fldP L s x v p z1 = z at h ih'
      refine xad (a_lookaheads := a) hs (by omega) h ?_
      dsimp only
      have ih2 := ih' (upd a (34 * s + 4 * p) (z.1 s (4 * p) ||| v)) (by omega) (XL_a h (by omega))
      unfold add_ at ih2
      dsimp only at ih2
      cases hc : ((z.1 s (4 * p) ||| v) == z.1 s (4 * p)) with
      | true =>
        rw [hc] at ih2
        simp only [Bool.not_true, Bool.or_false] at ih2
        exact br_t rfl (nm_r (nI_1 p) ih2)
      | false =>
        rw [hc] at ih2
        simp only [Bool.not_false, Bool.or_true] at ih2
        exact br_f (by decide) (nm_r (nI_1 p) ih2)
    · rw [if_neg e] at ih'
      exact nm_r (nI_1 p) (ih' a (by omega) h)
theorem xh_ {post : Int32 → SX → Prop} {s i : Nat} {la : Nat → Nat → Int32} (hH : laH pc ns L W R bs G M) (hX : gr_X a_grammar L W R) (hB : BR a_begins bs) (hM : ∀ s x, s < ns → sym x → a_moves (13 * s + x) = M (7 * s + col x)) (hs : s < ns) (hi : i < 34) (hb : bl (G s) i = true) (hl : XL a_lookaheads la)
    (H : ∀ a : Nat → Int32, XL a (hO pc L W R bs M s i la).1 → post (b2 (hO pc L W R bs M s i la).2) (nI pc, f_textLength, f_anythingBuilt, f_tokenCount, f_parseValue, f_parsePlace, a_ruleTerms, a_ruleLengths, a_skips, a_grammar, a_ranks, a_groupings, a_text, a_heads, a_tails, a_empties, a_placeLetters, a_followers, a_ruleEnds, a_sets, a_steps, a_classes, a_finerClasses, a_states, a_moves, a_begins, a, a_builtCounts, a_builtSteps, a_builtMatches, a_builtSkips, a_builtGrammar, a_builtMoves, a_builtActions, a_tokenRules, a_tokenBegins, a_tokenEnds, a_stackStates, a_stackValues)) : wpX_handOn post (nI pc, f_textLength, f_anythingBuilt, f_tokenCount, f_parseValue, f_parsePlace, a_ruleTerms, a_ruleLengths, a_skips, a_grammar, a_ranks, a_groupings, a_text, a_heads, a_tails, a_empties, a_placeLetters, a_followers, a_ruleEnds, a_sets, a_steps, a_classes, a_finerClasses, a_states, a_moves, a_begins, a_lookaheads, a_builtCounts, a_builtSteps, a_builtMatches, a_builtSkips, a_builtGrammar, a_builtMoves, a_builtActions, a_tokenRules, a_tokenBegins, a_tokenEnds, a_stackStates, a_stackValues) (nI s) (nI i) := by
  obtain ⟨hV, hbs, hns, h34, hT⟩ := hH
  unfold wpX_handOn
  dsimp only
  refine xy_ (by omega) hV hX ?_
  unfold nxt
  unfold hO at H
  by_cases c : i % 4 < W (i / 4)
  · rw [if_pos c] at H ⊢
    obtain ⟨t, ht, et⟩ := hT s i hs hi hb c
    obtain ⟨q1, q2, q3, q4, q5⟩ := i33 hV hi c
    have hsy : sym (R (i / 4) (i % 4)) := (hV.2.1 (i / 4)).2.2 _ c
    have hcn := hM s _ hs hsy
    rw [et, nI_clamp (by omega)] at H
    rw [et] at hcn
    generalize hx : R (i / 4) (i % 4) = x at H hsy hcn
    have hx13 : x < 13 := by rcases hsy with z | z <;> omega
    refine br_f (zn_ne1 (by omega)) ?_
    rw [show nI s * 34 + nI i = nI (34 * s + i) from by rw [show (34 : Int32) = nI 34 from rfl, pk_mul, nI_add]; congr 1; omega, nI_clamp (show 34 * s + i < 2 ^ 31 by omega), hl s i (by omega) hi, show nI s * 13 + nI x = nI (13 * s + x) from by rw [show (13 : Int32) = nI 13 from rfl, pk_mul, nI_add]; congr 1; omega, nI_clamp (show 13 * s + x < 2 ^ 31 by omega), hcn, nI_1 i]
    refine ⟨vp_in_nI (by omega) (by omega), nm_e ⟨vp_in_nI (by omega) (by omega), nm_e (xad (by omega) (by omega) hl ?_)⟩⟩
    dsimp only
    have hXL := XL_a hl (t := t) (i := i + 1) (v := la s i) (by omega)
    by_cases c10 : x < 10
    · rw [if_pos c10] at H
      refine xn_f (fun ⟨j, hj, e⟩ => ?_) (br_t rfl ⟨b2_n _, ?_⟩)
      · have := zn_inj (by omega) (by omega) e; omega
      · have := H _ hXL
        unfold add_ at this
        simp only [Bool.false_or] at this
        exact this
    · rw [if_neg c10] at H
      have hxs : 10 ≤ x ∧ x < 13 := by omega
      refine xn_t ⟨x, hxs, rfl⟩ (br_f (by decide) ?_)
      rw [show i + 1 = 4 * (i / 4) + (i % 4 + 1) by omega]
      refine xr_ q3 q4 hV hX hbs hB ?_
      rw [← show i + 1 = 4 * (i / 4) + (i % 4 + 1) by omega]
      have hlow := rst_low (W := W) (R := R) hbs hV (p := i / 4) (k := i % 4 + 1)
      have go : ∀ v : Int32, v = rsv (rst W R bs (i / 4) (i % 4 + 1)) (la s i) → ∃ n94 : Nat, wX_handOn_94 post (nI s) (nI x) v n94 (b2 (!((la t (i + 1) ||| la s i) == la t (i + 1)))) 0 (nI pc) f_textLength f_anythingBuilt f_tokenCount f_parseValue f_parsePlace a_ruleTerms a_ruleLengths a_skips a_grammar a_ranks a_groupings a_text a_heads a_tails a_empties a_placeLetters a_followers a_ruleEnds a_sets a_steps a_classes a_finerClasses a_states a_moves a_begins (upd a_lookaheads (34 * t + (i + 1)) (la t (i + 1) ||| la s i)) a_builtCounts a_builtSteps a_builtMatches a_builtSkips a_builtGrammar a_builtMoves a_builtActions a_tokenRules a_tokenBegins a_tokenEnds a_stackStates a_stackValues := by
        intro v ev
        subst ev
        have h0 := xh_94 (post := post) (s := s) (x := x) (v := rsv (rst W R bs (i / 4) (i % 4 + 1)) (la s i)) (z1 := add_ t (i + 1) (la s i) (la, false)) (by omega) hx13 hV hX H pc 0 _ (by omega) hXL
        have e0 : (fldP L s x (rsv (rst W R bs (i / 4) (i % 4 + 1)) (la s i)) 0 (add_ t (i + 1) (la s i) (la, false))).2 = !((la t (i + 1) ||| la s i) == la t (i + 1)) := by
          show (add_ t (i + 1) (la s i) (la, false)).2 = _
          unfold add_; simp only [Bool.false_or]
        rw [e0] at h0
        exact ⟨pc + 1, h0⟩
      unfold rsv at go ⊢
      cases hE : (rst W R bs (i / 4) (i % 4 + 1)).2 with
      | false =>
        rw [hE] at go
        rw [if_neg (show ¬ (false = true) by decide)] at go ⊢
        exact br_t (lo_c hlow) (go _ rfl)
      | true =>
        rw [hE] at go
        rw [if_pos rfl] at go ⊢
        rw [lo_b hlow]
        exact br_f lo_d (nm_e (go _ rfl))
  · rw [if_neg c] at H ⊢
    exact br_t rfl (H _ hl)
theorem xl_67 {post : SX → Prop} {J35 J51 : Int32 → Int32 → Int32 → Int32 → Int32 → Int32 → Int32 → Int32 → (Nat → Int32) → (Nat → Int32) → (Nat → Int32) → (Nat → Int32) → (Nat → Int32) → (Nat → Int32) → (Nat → Int32) → (Nat → Int32) → (Nat → Int32) → (Nat → Int32) → (Nat → Int32) → (Nat → Int32) → (Nat → Int32) → (Nat → Int64) → (Nat → Int32) → (Nat → Int32) → (Nat → Int32) → (Nat → Int64) → (Nat → Int32) → (Nat → Int32) → (Nat → Int32) → (Nat → Int32) → (Nat → Int32) → (Nat → Int32) → (Nat → Int32) → (Nat → Int32) → (Nat → Int32) → (Nat → Int32) → (Nat → Int32) → (Nat → Int32) → (Nat → Int32) → (Nat → Int32) → (Nat → Int32) → Prop} {s : Nat} {x1 x3 : Int32} {z : (Nat → Nat → Int32) × Bool} (hH : laH pc ns L W R bs G M) (hX : gr_X a_grammar L W R) (hB : BR a_begins bs) (hM : ∀ s x, s < ns → sym x → a_moves (13 * s + x) = M (7 * s + col x)) (hG : ∀ s, s < ns → a_states s = G s) (hs : s < ns)
    (H : ∀ a : Nat → Int32, XL a (rowL pc L W R bs G M s 34 z).1 → J51 (b2 (rowL pc L W R bs G M s 34 z).2) (nI (s + 1)) (nI pc) f_textLength f_anythingBuilt f_tokenCount f_parseValue f_parsePlace a_ruleTerms a_ruleLengths a_skips a_grammar a_ranks a_groupings a_text a_heads a_tails a_empties a_placeLetters a_followers a_ruleEnds a_sets a_steps a_classes a_finerClasses a_states a_moves a_begins a a_builtCounts a_builtSteps a_builtMatches a_builtSkips a_builtGrammar a_builtMoves a_builtActions a_tokenRules a_tokenBegins a_tokenEnds a_stackStates a_stackValues) :
    ∀ d i (a : Nat → Int32), i + d = 34 → XL a (rowL pc L W R bs G M s i z).1 → wX_findLookaheads_67 post J35 J51 x1 x3 (nI s) (d + 1) (b2 (rowL pc L W R bs G M s i z).2) (nI i) (nI pc) f_textLength f_anythingBuilt f_tokenCount f_parseValue f_parsePlace a_ruleTerms a_ruleLengths a_skips a_grammar a_ranks a_groupings a_text a_heads a_tails a_empties a_placeLetters a_followers a_ruleEnds a_sets a_steps a_classes a_finerClasses a_states a_moves a_begins a a_builtCounts a_builtSteps a_builtMatches a_builtSkips a_builtGrammar a_builtMoves a_builtActions a_tokenRules a_tokenBegins a_tokenEnds a_stackStates a_stackValues := by
  have hns := hH.2.2.1
  intro d
  induction d with
  | zero =>
    intro i a hi h
    have : i = 34 := by omega
    subst this
    exact pk_le 34 34 (fun _ => nm_r (nI_1 s) (H a h)) (fun z => absurd z (by omega))
  | succ d ih =>
    intro i a hi h
    have ih' := ih (i + 1)
    rw [rowL] at ih'
    refine pk_le 34 i (fun z => absurd z (by omega)) (fun _ => ⟨vp_in_nI (by omega) (by omega), ?_⟩)
    rw [nI_clamp (show s < 2 ^ 31 by omega), hG s hs]
    refine zb_b0 i (fun hb => nm_r (nI_1 i) ?_) (fun hb => ?_)
    · rw [if_neg (by rw [hb]; decide)] at ih'
      exact ih' a (by omega) h
    · rw [if_pos hb] at ih'
      generalize rowL pc L W R bs G M s i z = w at h ih'
      refine xh_ (a_lookaheads := a) hH hX hB hM hs (by omega) hb h (fun a' h' => ?_)
      dsimp only
      have ih2 := ih' a' (by omega) h'
      dsimp only at ih2
      cases hc : (hO pc L W R bs M s i w.1).2 with
      | false =>
        rw [hc, Bool.or_false] at ih2
        exact br_t rfl (nm_r (nI_1 i) ih2)
      | true =>
        rw [hc, Bool.or_true] at ih2
        exact br_f (by decide) (nm_r (nI_1 i) ih2)
theorem xl_51 {post : SX → Prop} {J35 : Int32 → Int32 → Int32 → Int32 → Int32 → Int32 → Int32 → Int32 → (Nat → Int32) → (Nat → Int32) → (Nat → Int32) → (Nat → Int32) → (Nat → Int32) → (Nat → Int32) → (Nat → Int32) → (Nat → Int32) → (Nat → Int32) → (Nat → Int32) → (Nat → Int32) → (Nat → Int32) → (Nat → Int32) → (Nat → Int64) → (Nat → Int32) → (Nat → Int32) → (Nat → Int32) → (Nat → Int64) → (Nat → Int32) → (Nat → Int32) → (Nat → Int32) → (Nat → Int32) → (Nat → Int32) → (Nat → Int32) → (Nat → Int32) → (Nat → Int32) → (Nat → Int32) → (Nat → Int32) → (Nat → Int32) → (Nat → Int32) → (Nat → Int32) → (Nat → Int32) → (Nat → Int32) → Prop} {k : Nat} {z : (Nat → Nat → Int32) × Bool} (hH : laH pc ns L W R bs G M) (hX : gr_X a_grammar L W R) (hB : BR a_begins bs) (hM : ∀ s x, s < ns → sym x → a_moves (13 * s + x) = M (7 * s + col x)) (hG : ∀ s, s < ns → a_states s = G s)
    (H : ∀ a : Nat → Int32, XL a (allL pc L W R bs G M ns z).1 → J35 (b2 (allL pc L W R bs G M ns z).2) (nI (k + 1)) (nI pc) f_textLength f_anythingBuilt f_tokenCount f_parseValue f_parsePlace a_ruleTerms a_ruleLengths a_skips a_grammar a_ranks a_groupings a_text a_heads a_tails a_empties a_placeLetters a_followers a_ruleEnds a_sets a_steps a_classes a_finerClasses a_states a_moves a_begins a a_builtCounts a_builtSteps a_builtMatches a_builtSkips a_builtGrammar a_builtMoves a_builtActions a_tokenRules a_tokenBegins a_tokenEnds a_stackStates a_stackValues) :
    ∀ d s (a : Nat → Int32), s + d = ns → XL a (allL pc L W R bs G M s z).1 → wX_findLookaheads_51 post J35 (nI ns) (nI k) (d + 1) (b2 (allL pc L W R bs G M s z).2) (nI s) (nI pc) f_textLength f_anythingBuilt f_tokenCount f_parseValue f_parsePlace a_ruleTerms a_ruleLengths a_skips a_grammar a_ranks a_groupings a_text a_heads a_tails a_empties a_placeLetters a_followers a_ruleEnds a_sets a_steps a_classes a_finerClasses a_states a_moves a_begins a a_builtCounts a_builtSteps a_builtMatches a_builtSkips a_builtGrammar a_builtMoves a_builtActions a_tokenRules a_tokenBegins a_tokenEnds a_stackStates a_stackValues := by
  have hns := hH.2.2.1
  intro d
  induction d with
  | zero =>
    intro s a hs h
    have : s = ns := by omega
    subst this
    exact pk_le 40 s (fun _ => nm_r (nI_1 k) (H a h)) (fun _ => pk_le s s (fun _ => nm_r (nI_1 k) (H a h)) (fun z => absurd z (by omega)))
  | succ d ih =>
    intro s a hs h
    refine pk_le 40 s (fun z => absurd z (by omega)) (fun _ => pk_le ns s (fun z => absurd z (by omega)) (fun _ => ⟨35, ?_⟩))
    exact xl_67 (z := allL pc L W R bs G M s z) hH hX hB hM hG (by omega) (fun a' h' => ih (s + 1) a' (by omega) h') 34 0 a (by omega) h
theorem xl_35 {post : SX → Prop} {N : Nat} (hH : laH pc ns L W R bs G M) (hX : gr_X a_grammar L W R) (hB : BR a_begins bs) (hM : ∀ s x, s < ns → sym x → a_moves (13 * s + x) = M (7 * s + col x)) (hG : ∀ s, s < ns → a_states s = G s) (hN : N ≤ 6800) (h1 : ∀ k, k < N → (allL pc L W R bs G M ns (laK pc L W R bs G M ns k, false)).2 = true) (h2 : (allL pc L W R bs G M ns (laK pc L W R bs G M ns N, false)).2 = false)
    (H : ∀ a : Nat → Int32, XL a (laK pc L W R bs G M ns (N + 1)) → post (nI pc, f_textLength, f_anythingBuilt, f_tokenCount, f_parseValue, f_parsePlace, a_ruleTerms, a_ruleLengths, a_skips, a_grammar, a_ranks, a_groupings, a_text, a_heads, a_tails, a_empties, a_placeLetters, a_followers, a_ruleEnds, a_sets, a_steps, a_classes, a_finerClasses, a_states, a_moves, a_begins, a, a_builtCounts, a_builtSteps, a_builtMatches, a_builtSkips, a_builtGrammar, a_builtMoves, a_builtActions, a_tokenRules, a_tokenBegins, a_tokenEnds, a_stackStates, a_stackValues)) :
    ∀ d k (a : Nat → Int32) (g : Bool), k + d = N + 1 → XL a (laK pc L W R bs G M ns k) → (g = true ↔ k ≤ N) → wX_findLookaheads_35 post (nI ns) (d + 1) (b2 g) (nI k) (nI pc) f_textLength f_anythingBuilt f_tokenCount f_parseValue f_parsePlace a_ruleTerms a_ruleLengths a_skips a_grammar a_ranks a_groupings a_text a_heads a_tails a_empties a_placeLetters a_followers a_ruleEnds a_sets a_steps a_classes a_finerClasses a_states a_moves a_begins a a_builtCounts a_builtSteps a_builtMatches a_builtSkips a_builtGrammar a_builtMoves a_builtActions a_tokenRules a_tokenBegins a_tokenEnds a_stackStates a_stackValues := by
  intro d
  induction d with
  | zero =>
    intro k a g hk h hg
    have : k = N + 1 := by omega
    subst this
    have g0 : g = false := by
      cases g with
      | false => rfl
      | true => have := hg.mp rfl; omega
    subst g0
    exact br_c (fun _ => H a h) (fun _ => br_t rfl (H a h))
  | succ d ih =>
    intro k a g hk h hg
    have g1 : g = true := hg.mpr (by omega)
    subst g1
    refine br_f (nI_ge (b := 6801) (by omega) (by omega)) (br_f (by decide) ⟨ns + 1, ?_⟩)
    refine xl_51 (z := (laK pc L W R bs G M ns k, false)) hH hX hB hM hG (fun a' h' => ih (k + 1) a' _ (by omega) h' ⟨fun e => ?_, fun e => h1 k (by omega)⟩) ns 0 a (by omega) h
    rcases Nat.lt_or_ge k N with c | c
    · omega
    · have : k = N := by omega
      subst this
      rw [h2] at e; exact absurd e (by decide)
theorem xlk_2 {post : SX → Prop} {N : Nat} (hH : laH pc ns L W R bs G M) (hX : gr_X a_grammar L W R) (hB : BR a_begins bs) (hM : ∀ s x, s < ns → sym x → a_moves (13 * s + x) = M (7 * s + col x)) (hG : ∀ s, s < ns → a_states s = G s) (hN : N ≤ 6800) (h1 : ∀ k, k < N → (allL pc L W R bs G M ns (laK pc L W R bs G M ns k, false)).2 = true) (h2 : (allL pc L W R bs G M ns (laK pc L W R bs G M ns N, false)).2 = false)
    (H : ∀ a : Nat → Int32, XL a (laK pc L W R bs G M ns (N + 1)) → post (nI pc, f_textLength, f_anythingBuilt, f_tokenCount, f_parseValue, f_parsePlace, a_ruleTerms, a_ruleLengths, a_skips, a_grammar, a_ranks, a_groupings, a_text, a_heads, a_tails, a_empties, a_placeLetters, a_followers, a_ruleEnds, a_sets, a_steps, a_classes, a_finerClasses, a_states, a_moves, a_begins, a, a_builtCounts, a_builtSteps, a_builtMatches, a_builtSkips, a_builtGrammar, a_builtMoves, a_builtActions, a_tokenRules, a_tokenBegins, a_tokenEnds, a_stackStates, a_stackValues)) :
    ∀ d c (a : Nat → Int32), c + d = 1360 → (∀ k, k < c → a k = 0) → wX_findLookaheads_2 post (nI ns) (nI pc) f_textLength f_anythingBuilt f_tokenCount f_parseValue f_parsePlace (d + 1) (nI c) a_ruleTerms a_ruleLengths a_skips a_grammar a_ranks a_groupings a_text a_heads a_tails a_empties a_placeLetters a_followers a_ruleEnds a_sets a_steps a_classes a_finerClasses a_states a_moves a_begins a a_builtCounts a_builtSteps a_builtMatches a_builtSkips a_builtGrammar a_builtMoves a_builtActions a_tokenRules a_tokenBegins a_tokenEnds a_stackStates a_stackValues := by
  intro d
  induction d with
  | zero =>
    intro c a hc h
    have : c = 1360 := by omega
    subst this
    refine pk_le 1360 1360 (fun _ => nm_e ⟨N + 1 + 1, xl_35 hH hX hB hM hG hN h1 h2 H (N + 1) 0 _ true (by omega) (fun s i hs hi => ?_) ⟨fun _ => by omega, fun _ => rfl⟩⟩) (fun z => absurd z (by omega))
    unfold laK
    by_cases e : s = 0 ∧ i = 32
    · rw [if_pos e]; obtain ⟨rfl, rfl⟩ := e; exact pk_us
    · rw [if_neg e, pk_un (by omega)]; exact h _ (by omega)
  | succ d ih =>
    intro c a hc h
    refine pk_le 1360 c (fun z => absurd z (by omega)) (fun _ => ⟨vp_in_nI (by omega) (by omega), ?_⟩)
    rw [nI_clamp (show c < 2 ^ 31 by omega)]
    refine nm_e (nm_r (nI_1 c) (ih (c + 1) _ (by omega) (fun k hk => ?_)))
    by_cases e : k = c
    · subst e; exact pk_us
    · rw [pk_un e]; exact h k (by omega)
theorem x_look {post : SX → Prop} {N : Nat} (hH : laH pc ns L W R bs G M) (hX : gr_X a_grammar L W R) (hB : BR a_begins bs) (hM : ∀ s x, s < ns → sym x → a_moves (13 * s + x) = M (7 * s + col x)) (hG : ∀ s, s < ns → a_states s = G s) (hN : N ≤ 6800) (h1 : ∀ k, k < N → (allL pc L W R bs G M ns (laK pc L W R bs G M ns k, false)).2 = true) (h2 : (allL pc L W R bs G M ns (laK pc L W R bs G M ns N, false)).2 = false)
    (H : ∀ a : Nat → Int32, XL a (laK pc L W R bs G M ns (N + 1)) → post (nI pc, f_textLength, f_anythingBuilt, f_tokenCount, f_parseValue, f_parsePlace, a_ruleTerms, a_ruleLengths, a_skips, a_grammar, a_ranks, a_groupings, a_text, a_heads, a_tails, a_empties, a_placeLetters, a_followers, a_ruleEnds, a_sets, a_steps, a_classes, a_finerClasses, a_states, a_moves, a_begins, a, a_builtCounts, a_builtSteps, a_builtMatches, a_builtSkips, a_builtGrammar, a_builtMoves, a_builtActions, a_tokenRules, a_tokenBegins, a_tokenEnds, a_stackStates, a_stackValues)) : wpX_findLookaheads post (nI pc, f_textLength, f_anythingBuilt, f_tokenCount, f_parseValue, f_parsePlace, a_ruleTerms, a_ruleLengths, a_skips, a_grammar, a_ranks, a_groupings, a_text, a_heads, a_tails, a_empties, a_placeLetters, a_followers, a_ruleEnds, a_sets, a_steps, a_classes, a_finerClasses, a_states, a_moves, a_begins, a_lookaheads, a_builtCounts, a_builtSteps, a_builtMatches, a_builtSkips, a_builtGrammar, a_builtMoves, a_builtActions, a_tokenRules, a_tokenBegins, a_tokenEnds, a_stackStates, a_stackValues) (nI ns) :=
  ⟨1361, xlk_2 hH hX hB hM hG hN h1 h2 H 1360 0 a_lookaheads (by omega) (fun k hk => absurd hk (Nat.not_lt_zero _))⟩
end
end
section
/-! lookaheads: the reference -/
def YL (a : Nat → Int32) (la : Nat → Nat → Int32) : Prop := ∀ s i, s < 40 → i < 34 → a (36 * s + i) = la s i
theorem YL_a {a : Nat → Int32} {la : Nat → Nat → Int32} (h : YL a la) {t i : Nat} {v : Int32} (hi : i < 34) : YL (upd a (36 * t + i) (la t i ||| v)) (adL la t i v) := by
  intro p q hp hq
  unfold adL
  by_cases e : p = t ∧ q = i
  · rw [if_pos e]; obtain ⟨rfl, rfl⟩ := e; exact pk_us
  · rw [if_neg e, pk_un (by omega)]; exact h p q hp hq
theorem b2_or (g h : Bool) : b2 g ||| b2 h = b2 (g || h) := by cases g <;> cases h <;> decide
section
variable {g_productions : Int32} {g_start : Int64} {g_sets g_states g_conflicts g_ready g_length g_tokens g_stuck g_scanned g_value g_place : Int32} {b_term b_size b_skipped b_left b_right b_width b_op b_constant b_rank b_grouping b_bTerm b_bSize b_bSkipped b_bLeft b_bWidth b_bOp b_bConstant : Nat → Int32} {b_follow b_ends b_first b_last : Nat → Int64} {b_none : Nat → Int32} {b_set : Nat → Int64} {b_leads b_apart : Nat → Int32} {b_state : Nat → Int64} {b_to b_look b_begins b_nullable b_act b_built b_leadTo b_text b_fits b_token b_stack b_worth : Nat → Int32} {pc ns : Nat} {L W : Nat → Nat} {R : Nat → Nat → Nat} {bs : (Nat → Int32) × (Nat → Int32)} {M : Nat → Int32}
theorem yha {post : Int32 → SY → Prop} {t i : Nat} {v : Int32} {la : Nat → Nat → Int32} (ht : t < 40) (hi : i < 34) (hl : YL b_look la)
    (H : post (b2 (!((la t i ||| v) == la t i))) (g_productions, g_start, g_sets, g_states, g_conflicts, g_ready, g_length, g_tokens, g_stuck, g_scanned, g_value, g_place, b_term, b_size, b_skipped, b_left, b_right, b_width, b_op, b_constant, b_rank, b_grouping, b_bTerm, b_bSize, b_bSkipped, b_bLeft, b_bWidth, b_bOp, b_bConstant, b_follow, b_ends, b_first, b_last, b_none, b_set, b_leads, b_apart, b_state, b_to, upd b_look (36 * t + i) (la t i ||| v), b_begins, b_nullable, b_act, b_built, b_leadTo, b_text, b_fits, b_token, b_stack, b_worth)) : wpY_has post (g_productions, g_start, g_sets, g_states, g_conflicts, g_ready, g_length, g_tokens, g_stuck, g_scanned, g_value, g_place, b_term, b_size, b_skipped, b_left, b_right, b_width, b_op, b_constant, b_rank, b_grouping, b_bTerm, b_bSize, b_bSkipped, b_bLeft, b_bWidth, b_bOp, b_bConstant, b_follow, b_ends, b_first, b_last, b_none, b_set, b_leads, b_apart, b_state, b_to, b_look, b_begins, b_nullable, b_act, b_built, b_leadTo, b_text, b_fits, b_token, b_stack, b_worth) (nI (36 * t + i)) v := by
  have ii : vp_in (nI (36 * t + i)) 1476 := vp_in_nI (by omega) (by omega)
  unfold wpY_has wY_has_22
  dsimp only
  rw [nI_clamp (by omega), hl t i ht hi]
  refine ⟨ii, ii, br_c (fun e => ?_) (fun e => ?_)⟩
  · rw [show ((la t i ||| v) == la t i) = true from by rw [e]; simp] at H
    exact ⟨ii, ii, nm_e ⟨rfl, H⟩⟩
  · rw [show ((la t i ||| v) == la t i) = false from beq_eq_false_iff_ne.mpr e] at H
    exact ⟨ii, ii, nm_e ⟨rfl, H⟩⟩
theorem yk_164 {post : SY → Prop} {J33 : Int32 → Int32 → Int64 → Int32 → Int32 → Int32 → Int32 → Int32 → Int32 → Int32 → Int32 → Int32 → Int32 → (Nat → Int32) → (Nat → Int32) → (Nat → Int32) → (Nat → Int32) → (Nat → Int32) → (Nat → Int32) → (Nat → Int32) → (Nat → Int32) → (Nat → Int32) → (Nat → Int32) → (Nat → Int32) → (Nat → Int32) → (Nat → Int32) → (Nat → Int32) → (Nat → Int32) → (Nat → Int32) → (Nat → Int32) → (Nat → Int64) → (Nat → Int64) → (Nat → Int64) → (Nat → Int64) → (Nat → Int32) → (Nat → Int64) → (Nat → Int32) → (Nat → Int32) → (Nat → Int64) → (Nat → Int32) → (Nat → Int32) → (Nat → Int32) → (Nat → Int32) → (Nat → Int32) → (Nat → Int32) → (Nat → Int32) → (Nat → Int32) → (Nat → Int32) → (Nat → Int32) → (Nat → Int32) → (Nat → Int32) → Prop} {J41 : Int32 → Int32 → Int32 → Int64 → Int32 → Int32 → Int32 → Int32 → Int32 → Int32 → Int32 → Int32 → Int32 → Int32 → (Nat → Int32) → (Nat → Int32) → (Nat → Int32) → (Nat → Int32) → (Nat → Int32) → (Nat → Int32) → (Nat → Int32) → (Nat → Int32) → (Nat → Int32) → (Nat → Int32) → (Nat → Int32) → (Nat → Int32) → (Nat → Int32) → (Nat → Int32) → (Nat → Int32) → (Nat → Int32) → (Nat → Int32) → (Nat → Int64) → (Nat → Int64) → (Nat → Int64) → (Nat → Int64) → (Nat → Int32) → (Nat → Int64) → (Nat → Int32) → (Nat → Int32) → (Nat → Int64) → (Nat → Int32) → (Nat → Int32) → (Nat → Int32) → (Nat → Int32) → (Nat → Int32) → (Nat → Int32) → (Nat → Int32) → (Nat → Int32) → (Nat → Int32) → (Nat → Int32) → (Nat → Int32) → (Nat → Int32) → Prop} {s x k : Nat} {v : Int32} {z1 : (Nat → Nat → Int32) × Bool} {g0 : Bool} (hs : s < 40) (hx : x < 13) (hV : gr_V pc L W R) (hY : gr_Y b_left b_right b_width L W R)
    (H : ∀ b : Nat → Int32, YL b (fldP L s x v pc z1).1 → J41 (b2 (g0 || (fldP L s x v pc z1).2)) (nI (k + 1)) (nI pc) g_start g_sets g_states g_conflicts g_ready g_length g_tokens g_stuck g_scanned g_value g_place b_term b_size b_skipped b_left b_right b_width b_op b_constant b_rank b_grouping b_bTerm b_bSize b_bSkipped b_bLeft b_bWidth b_bOp b_bConstant b_follow b_ends b_first b_last b_none b_set b_leads b_apart b_state b_to b b_begins b_nullable b_act b_built b_leadTo b_text b_fits b_token b_stack b_worth) :
    ∀ d p (b : Nat → Int32), p + d = pc → YL b (fldP L s x v p z1).1 → wY_carry_164 post J33 J41 (nI k) (nI s) (nI x) v (d + 1) (b2 (g0 || (fldP L s x v p z1).2)) (nI p) (nI pc) g_start g_sets g_states g_conflicts g_ready g_length g_tokens g_stuck g_scanned g_value g_place b_term b_size b_skipped b_left b_right b_width b_op b_constant b_rank b_grouping b_bTerm b_bSize b_bSkipped b_bLeft b_bWidth b_bOp b_bConstant b_follow b_ends b_first b_last b_none b_set b_leads b_apart b_state b_to b b_begins b_nullable b_act b_built b_leadTo b_text b_fits b_token b_stack b_worth := by
  have hpc := hV.1
  intro d
  induction d with
  | zero =>
    intro p b hp h
    have : p = pc := by omega
    subst this
    exact pk_le p p (fun _ => nm_r (nI_1 k) (H b h)) (fun z => absurd z (by omega))
  | succ d ih =>
    intro p b hp h
    have hL := (hV.2.1 p).1
    have ih' := ih (p + 1)
    rw [fldP] at ih'
    refine pk_le pc p (fun z => absurd z (by omega)) (fun _ => ⟨vp_in_nI (by omega) (by omega), ?_⟩)
    rw [nI_clamp (show p < 2 ^ 31 by omega), (hY p (by omega)).1, show 36 * nI s + 4 * nI p = nI (36 * s + 4 * p) from by rw [show (36 : Int32) = nI 36 from rfl, show (4 : Int32) = nI 4 from rfl, pk_mul, pk_mul, nI_add]]
    refine pk_eq (L p) x (fun e => ?_) (fun e => ?_)
    · rw [if_pos e] at ih'
      generalize fldP L s x v p z1 = z at h ih'
      refine yha (b_look := b) hs (by omega) h ?_
      dsimp only
      have ih2 := ih' (upd b (36 * s + 4 * p) (z.1 s (4 * p) ||| v)) (by omega) (YL_a h (by omega))
      unfold add_ at ih2
      dsimp only at ih2
      rw [← Bool.or_assoc, ← b2_or] at ih2
      exact nm_e (nm_r (nI_1 p) ih2)
    · rw [if_neg e] at ih'
      exact nm_r (nI_1 p) (ih' b (by omega) h)
theorem yk_row {post : SY → Prop} {J33 : Int32 → Int32 → Int64 → Int32 → Int32 → Int32 → Int32 → Int32 → Int32 → Int32 → Int32 → Int32 → Int32 → (Nat → Int32) → (Nat → Int32) → (Nat → Int32) → (Nat → Int32) → (Nat → Int32) → (Nat → Int32) → (Nat → Int32) → (Nat → Int32) → (Nat → Int32) → (Nat → Int32) → (Nat → Int32) → (Nat → Int32) → (Nat → Int32) → (Nat → Int32) → (Nat → Int32) → (Nat → Int32) → (Nat → Int32) → (Nat → Int64) → (Nat → Int64) → (Nat → Int64) → (Nat → Int64) → (Nat → Int32) → (Nat → Int64) → (Nat → Int32) → (Nat → Int32) → (Nat → Int64) → (Nat → Int32) → (Nat → Int32) → (Nat → Int32) → (Nat → Int32) → (Nat → Int32) → (Nat → Int32) → (Nat → Int32) → (Nat → Int32) → (Nat → Int32) → (Nat → Int32) → (Nat → Int32) → (Nat → Int32) → Prop} {s n : Nat} {z : (Nat → Nat → Int32) × Bool} (hH : laH pc ns L W R bs b_state b_to) (hY : gr_Y b_left b_right b_width L W R) (hB : YR b_begins b_nullable bs) (hs : s < ns)
    (H : ∀ b : Nat → Int32, YL b (rowL pc L W R bs b_state b_to s 34 z).1 → wY_carry_41 post J33 n (b2 (rowL pc L W R bs b_state b_to s 34 z).2) (nI (36 * (s + 1))) (nI pc) g_start g_sets (nI ns) g_conflicts g_ready g_length g_tokens g_stuck g_scanned g_value g_place b_term b_size b_skipped b_left b_right b_width b_op b_constant b_rank b_grouping b_bTerm b_bSize b_bSkipped b_bLeft b_bWidth b_bOp b_bConstant b_follow b_ends b_first b_last b_none b_set b_leads b_apart b_state b_to b b_begins b_nullable b_act b_built b_leadTo b_text b_fits b_token b_stack b_worth) :
    ∀ d i (b : Nat → Int32), i + d = 36 → YL b (rowL pc L W R bs b_state b_to s (if i < 34 then i else 34) z).1 → wY_carry_41 post J33 (n + d) (b2 (rowL pc L W R bs b_state b_to s (if i < 34 then i else 34) z).2) (nI (36 * s + i)) (nI pc) g_start g_sets (nI ns) g_conflicts g_ready g_length g_tokens g_stuck g_scanned g_value g_place b_term b_size b_skipped b_left b_right b_width b_op b_constant b_rank b_grouping b_bTerm b_bSize b_bSkipped b_bLeft b_bWidth b_bOp b_bConstant b_follow b_ends b_first b_last b_none b_set b_leads b_apart b_state b_to b b_begins b_nullable b_act b_built b_leadTo b_text b_fits b_token b_stack b_worth := by
  obtain ⟨hV, hbs, hns, h34, hT⟩ := id hH
  intro d
  induction d with
  | zero =>
    intro i b hi h
    have : i = 36 := by omega
    subst this
    rw [if_neg (by omega)] at h ⊢
    rw [show 36 * s + 36 = 36 * (s + 1) by omega]
    exact H b h
  | succ d ih =>
    intro i b hi h
    have e36 : 36 * nI ns = nI (36 * ns) := by rw [show (36 : Int32) = nI 36 from rfl, pk_mul]
    have ih' := ih (i + 1)
    rw [← Nat.add_assoc] at ih'
    refine pk_le (36 * ns) (36 * s + i) (fun z => absurd z (by omega)) (fun _ => ?_) e36
    rw [show (36 : Int32) = nI 36 from rfl, pk_rem (by omega) (by omega) (by omega), pk_div (by omega) (by omega) (by omega), show (36 * s + i) % 36 = i by omega, show (36 * s + i) / 36 = s by omega]
    refine ⟨by decide, nm_e ⟨by decide, nm_e (yy_ (by omega) hV hY ?_)⟩⟩
    by_cases c34 : i < 34
    · rw [if_pos c34] at h ⊢
      have ei1 : (if i + 1 < 34 then i + 1 else 34) = i + 1 := by
        by_cases c : i + 1 < 34
        · rw [if_pos c]
        · rw [if_neg c]; omega
      rw [ei1, rowL] at ih'
      generalize rowL pc L W R bs b_state b_to s i z = w at h ih'
      unfold nxt
      by_cases c : i % 4 < W (i / 4)
      · rw [if_pos c]
        have hsy : sym (R (i / 4) (i % 4)) := (hV.2.1 (i / 4)).2.2 _ c
        have hx13 : R (i / 4) (i % 4) < 13 := by rcases hsy with z | z <;> omega
        refine br_f (nI_pos (by omega)) ⟨vp_in_nI (by omega) (by omega), ?_⟩
        rw [nI_clamp (show s < 2 ^ 31 by omega)]
        refine zb_b0 i (fun hb => nm_r (nI_1 (36 * s + i)) ?_) (fun hb => ycol hsy ?_)
        · rw [if_neg (by rw [hb]; decide)] at ih'
          exact ih' b (by omega) h
        · rw [if_pos hb] at ih'
          obtain ⟨t, ht, et⟩ := hT s i hs c34 hb c
          obtain ⟨q1, q2, q3, q4, q5⟩ := i33 hV c34 c
          unfold hO at ih'
          rw [if_pos c, et, nI_clamp (by omega)] at ih'
          have hcl := (col_s hsy).1
          rw [show 7 * nI s + nI (col (R (i / 4) (i % 4))) = nI (7 * s + col (R (i / 4) (i % 4))) from by rw [show (7 : Int32) = nI 7 from rfl, pk_mul, nI_add], nI_clamp (show 7 * s + col (R (i / 4) (i % 4)) < 2 ^ 31 by omega), et, nI_clamp (show 36 * s + i < 2 ^ 31 by omega), h s i (by omega) c34]
          generalize R (i / 4) (i % 4) = x at hsy hx13 ih' hcl
          refine ⟨vp_in_nI (by omega) (by omega), vp_in_nI (by omega) (by omega), ?_⟩
          rw [show nI 36 * nI t + nI i + 1 = nI (36 * t + (i + 1)) from by rw [pk_mul, nI_add, nI_1]; congr 1]
          refine yha (b_look := b) (by omega) (by omega) h ?_
          dsimp only
          have hYL := YL_a h (t := t) (i := i + 1) (v := w.1 s i) (by omega)
          have eu : upd b (36 * t + (i + 1)) (w.1 t (i + 1) ||| w.1 s i) (36 * s + i) = w.1 s i := by
            rw [pk_un (by omega)]; exact h s i (by omega) c34
          refine nm_r (b2_or w.2 _) (pk_le 10 x (fun c10 => ?_) (fun c10 => nm_r (nI_1 (36 * s + i)) ?_))
          · rw [if_neg (show ¬ x < 10 by omega)] at ih'
            rw [show (4 : Int32) = nI 4 from rfl, pk_rem (by omega) (by omega) (by omega), pk_div (by omega) (by omega) (by omega), nI_1 (i % 4), eu]
            refine ⟨by decide, by decide, vp_in_nI (by omega) (by omega), yr_b q3 q4 hV hY hB ?_⟩
            have h0 : ∀ b' : Nat → Int32, YL b' (fldP L s x (rsv (rst W R bs (i / 4) (i % 4 + 1)) (w.1 s i)) pc (add_ t (i + 1) (w.1 s i) (w.1, false))).1 → wY_carry_41 post J33 (n + d) (b2 (w.2 || (fldP L s x (rsv (rst W R bs (i / 4) (i % 4 + 1)) (w.1 s i)) pc (add_ t (i + 1) (w.1 s i) (w.1, false))).2)) (nI (36 * s + i + 1)) (nI pc) g_start g_sets (nI ns) g_conflicts g_ready g_length g_tokens g_stuck g_scanned g_value g_place b_term b_size b_skipped b_left b_right b_width b_op b_constant b_rank b_grouping b_bTerm b_bSize b_bSkipped b_bLeft b_bWidth b_bOp b_bConstant b_follow b_ends b_first b_last b_none b_set b_leads b_apart b_state b_to (b') b_begins b_nullable b_act b_built b_leadTo b_text b_fits b_token b_stack b_worth := fun b' hb' => ih' b' (by omega) hb'
            have h1 := yk_164 (post := post) (J33 := J33) (g_states := nI ns) (g0 := w.2) (k := 36 * s + i) (s := s) (x := x) (v := rsv (rst W R bs (i / 4) (i % 4 + 1)) (w.1 s i)) (z1 := add_ t (i + 1) (w.1 s i) (w.1, false)) (by omega) hx13 hV hY h0 pc 0 _ (by omega) hYL
            have e0 : (fldP L s x (rsv (rst W R bs (i / 4) (i % 4 + 1)) (w.1 s i)) 0 (add_ t (i + 1) (w.1 s i) (w.1, false))).2 = !((w.1 t (i + 1) ||| w.1 s i) == w.1 t (i + 1)) := by
              show (add_ t (i + 1) (w.1 s i) (w.1, false)).2 = _
              unfold add_; simp only [Bool.false_or]
            rw [e0] at h1
            exact ⟨pc + 1, h1⟩
          · rw [if_pos (show x < 10 by omega)] at ih'
            have := ih' _ (by omega) hYL
            unfold add_ at this
            simp only [Bool.false_or] at this
            exact this
      · rw [if_neg c]
        have hz : hO pc L W R bs b_to s i w.1 = (w.1, false) := by unfold hO; rw [if_neg c]
        rw [hz] at ih'
        simp only [Bool.or_false] at ih'
        refine br_t (by decide) (nm_r (nI_1 (36 * s + i)) ?_)
        have := ih' b (by omega)
        split at this
        · exact this h
        · exact this h
    · rw [if_neg c34] at h ⊢
      rw [if_neg (show ¬ i + 1 < 34 by omega)] at ih'
      have : nxt W R i = -1 := by
        unfold nxt
        rw [show i / 4 = 8 by omega, hV.2.2.2.2.1, if_neg (by omega)]
      rw [this]
      exact br_t (by decide) (nm_r (nI_1 (36 * s + i)) (ih' b (by omega) h))
theorem yk_all {post : SY → Prop} {J33 : Int32 → Int32 → Int64 → Int32 → Int32 → Int32 → Int32 → Int32 → Int32 → Int32 → Int32 → Int32 → Int32 → (Nat → Int32) → (Nat → Int32) → (Nat → Int32) → (Nat → Int32) → (Nat → Int32) → (Nat → Int32) → (Nat → Int32) → (Nat → Int32) → (Nat → Int32) → (Nat → Int32) → (Nat → Int32) → (Nat → Int32) → (Nat → Int32) → (Nat → Int32) → (Nat → Int32) → (Nat → Int32) → (Nat → Int32) → (Nat → Int64) → (Nat → Int64) → (Nat → Int64) → (Nat → Int64) → (Nat → Int32) → (Nat → Int64) → (Nat → Int32) → (Nat → Int32) → (Nat → Int64) → (Nat → Int32) → (Nat → Int32) → (Nat → Int32) → (Nat → Int32) → (Nat → Int32) → (Nat → Int32) → (Nat → Int32) → (Nat → Int32) → (Nat → Int32) → (Nat → Int32) → (Nat → Int32) → (Nat → Int32) → Prop} {z : (Nat → Nat → Int32) × Bool} (hH : laH pc ns L W R bs b_state b_to) (hY : gr_Y b_left b_right b_width L W R) (hB : YR b_begins b_nullable bs)
    (H : ∀ b : Nat → Int32, YL b (allL pc L W R bs b_state b_to ns z).1 → J33 (b2 (allL pc L W R bs b_state b_to ns z).2) (nI pc) g_start g_sets (nI ns) g_conflicts g_ready g_length g_tokens g_stuck g_scanned g_value g_place b_term b_size b_skipped b_left b_right b_width b_op b_constant b_rank b_grouping b_bTerm b_bSize b_bSkipped b_bLeft b_bWidth b_bOp b_bConstant b_follow b_ends b_first b_last b_none b_set b_leads b_apart b_state b_to b b_begins b_nullable b_act b_built b_leadTo b_text b_fits b_token b_stack b_worth) :
    ∀ d s (b : Nat → Int32), s + d = ns → YL b (allL pc L W R bs b_state b_to s z).1 → wY_carry_41 post J33 (36 * d + 1) (b2 (allL pc L W R bs b_state b_to s z).2) (nI (36 * s)) (nI pc) g_start g_sets (nI ns) g_conflicts g_ready g_length g_tokens g_stuck g_scanned g_value g_place b_term b_size b_skipped b_left b_right b_width b_op b_constant b_rank b_grouping b_bTerm b_bSize b_bSkipped b_bLeft b_bWidth b_bOp b_bConstant b_follow b_ends b_first b_last b_none b_set b_leads b_apart b_state b_to b b_begins b_nullable b_act b_built b_leadTo b_text b_fits b_token b_stack b_worth := by
  have hns := hH.2.2.1
  intro d
  induction d with
  | zero =>
    intro s b hs h
    have : s = ns := by omega
    subst this
    have e36 : 36 * nI s = nI (36 * s) := by rw [show (36 : Int32) = nI 36 from rfl, pk_mul]
    exact pk_le (36 * s) (36 * s) (fun _ => H b h) (fun z => absurd z (by omega)) e36
  | succ d ih =>
    intro s b hs h
    have := yk_row (post := post) (J33 := J33) (n := 36 * d + 1) (z := allL pc L W R bs b_state b_to s z) hH hY hB (show s < ns by omega) (fun b' h' => ih (s + 1) b' (by omega) h') 36 0 b (by omega) h
    rw [show 36 * d + 1 + 36 = 36 * (d + 1) + 1 by omega] at this
    exact this
theorem yk_33 {post : SY → Prop} {N : Nat} (hH : laH pc ns L W R bs b_state b_to) (hY : gr_Y b_left b_right b_width L W R) (hB : YR b_begins b_nullable bs) (h1 : ∀ k, k < N → (allL pc L W R bs b_state b_to ns (laK pc L W R bs b_state b_to ns k, false)).2 = true) (h2 : (allL pc L W R bs b_state b_to ns (laK pc L W R bs b_state b_to ns N, false)).2 = false)
    (H : ∀ b : Nat → Int32, YL b (laK pc L W R bs b_state b_to ns (N + 1)) → post (nI pc, g_start, g_sets, nI ns, g_conflicts, g_ready, g_length, g_tokens, g_stuck, g_scanned, g_value, g_place, b_term, b_size, b_skipped, b_left, b_right, b_width, b_op, b_constant, b_rank, b_grouping, b_bTerm, b_bSize, b_bSkipped, b_bLeft, b_bWidth, b_bOp, b_bConstant, b_follow, b_ends, b_first, b_last, b_none, b_set, b_leads, b_apart, b_state, b_to, b, b_begins, b_nullable, b_act, b_built, b_leadTo, b_text, b_fits, b_token, b_stack, b_worth)) :
    ∀ d k (b : Nat → Int32) (g : Bool), k + d = N + 1 → YL b (laK pc L W R bs b_state b_to ns k) → (g = true ↔ k ≤ N) → wY_carry_33 post (d + 1) (b2 g) (nI pc) g_start g_sets (nI ns) g_conflicts g_ready g_length g_tokens g_stuck g_scanned g_value g_place b_term b_size b_skipped b_left b_right b_width b_op b_constant b_rank b_grouping b_bTerm b_bSize b_bSkipped b_bLeft b_bWidth b_bOp b_bConstant b_follow b_ends b_first b_last b_none b_set b_leads b_apart b_state b_to b b_begins b_nullable b_act b_built b_leadTo b_text b_fits b_token b_stack b_worth := by
  intro d
  induction d with
  | zero =>
    intro k b g hk h hg
    have : k = N + 1 := by omega
    subst this
    have g0 : g = false := by
      cases g with
      | false => rfl
      | true => have := hg.mp rfl; omega
    subst g0
    exact br_t rfl (H b h)
  | succ d ih =>
    intro k b g hk h hg
    have g1 : g = true := hg.mpr (by omega)
    subst g1
    refine br_f (by decide) ⟨36 * ns + 1, ?_⟩
    refine yk_all (z := (laK pc L W R bs b_state b_to ns k, false)) hH hY hB (fun b' h' => ih (k + 1) b' _ (by omega) h' ⟨fun e => ?_, fun e => h1 k (by omega)⟩) ns 0 b (by omega) h
    rcases Nat.lt_or_ge k N with c | c
    · omega
    · have : k = N := by omega
      subst this
      rw [h2] at e; exact absurd e (by decide)
theorem yk_2 {post : SY → Prop} {N : Nat} (hH : laH pc ns L W R bs b_state b_to) (hY : gr_Y b_left b_right b_width L W R) (hB : YR b_begins b_nullable bs) (h1 : ∀ k, k < N → (allL pc L W R bs b_state b_to ns (laK pc L W R bs b_state b_to ns k, false)).2 = true) (h2 : (allL pc L W R bs b_state b_to ns (laK pc L W R bs b_state b_to ns N, false)).2 = false)
    (H : ∀ b : Nat → Int32, YL b (laK pc L W R bs b_state b_to ns (N + 1)) → post (nI pc, g_start, g_sets, nI ns, g_conflicts, g_ready, g_length, g_tokens, g_stuck, g_scanned, g_value, g_place, b_term, b_size, b_skipped, b_left, b_right, b_width, b_op, b_constant, b_rank, b_grouping, b_bTerm, b_bSize, b_bSkipped, b_bLeft, b_bWidth, b_bOp, b_bConstant, b_follow, b_ends, b_first, b_last, b_none, b_set, b_leads, b_apart, b_state, b_to, b, b_begins, b_nullable, b_act, b_built, b_leadTo, b_text, b_fits, b_token, b_stack, b_worth)) :
    ∀ d c (b : Nat → Int32), c + d = 1476 → (∀ k, k < c → b k = 0) → wY_carry_2 post (nI pc) g_start g_sets (nI ns) g_conflicts g_ready g_length g_tokens g_stuck g_scanned g_value g_place (d + 1) (nI c) b_term b_size b_skipped b_left b_right b_width b_op b_constant b_rank b_grouping b_bTerm b_bSize b_bSkipped b_bLeft b_bWidth b_bOp b_bConstant b_follow b_ends b_first b_last b_none b_set b_leads b_apart b_state b_to b b_begins b_nullable b_act b_built b_leadTo b_text b_fits b_token b_stack b_worth := by
  intro d
  induction d with
  | zero =>
    intro c b hc h
    have : c = 1476 := by omega
    subst this
    refine pk_le 1476 1476 (fun _ => nm_e ⟨N + 1 + 1, yk_33 hH hY hB h1 h2 H (N + 1) 0 _ true (by omega) (fun s i hs hi => ?_) ⟨fun _ => by omega, fun _ => rfl⟩⟩) (fun z => absurd z (by omega))
    unfold laK
    by_cases e : s = 0 ∧ i = 32
    · rw [if_pos e]; obtain ⟨rfl, rfl⟩ := e; exact pk_us
    · rw [if_neg e, pk_un (by omega)]; exact h _ (by omega)
  | succ d ih =>
    intro c b hc h
    refine pk_le 1476 c (fun z => absurd z (by omega)) (fun _ => ⟨vp_in_nI (by omega) (by omega), ?_⟩)
    rw [nI_clamp (show c < 2 ^ 31 by omega)]
    refine nm_e (nm_r (nI_1 c) (ih (c + 1) _ (by omega) (fun k hk => ?_)))
    by_cases e : k = c
    · subst e; exact pk_us
    · rw [pk_un e]; exact h k (by omega)
theorem y_look {post : SY → Prop} {N : Nat} (hH : laH pc ns L W R bs b_state b_to) (hY : gr_Y b_left b_right b_width L W R) (hB : YR b_begins b_nullable bs) (h1 : ∀ k, k < N → (allL pc L W R bs b_state b_to ns (laK pc L W R bs b_state b_to ns k, false)).2 = true) (h2 : (allL pc L W R bs b_state b_to ns (laK pc L W R bs b_state b_to ns N, false)).2 = false)
    (H : ∀ b : Nat → Int32, YL b (laK pc L W R bs b_state b_to ns (N + 1)) → post (nI pc, g_start, g_sets, nI ns, g_conflicts, g_ready, g_length, g_tokens, g_stuck, g_scanned, g_value, g_place, b_term, b_size, b_skipped, b_left, b_right, b_width, b_op, b_constant, b_rank, b_grouping, b_bTerm, b_bSize, b_bSkipped, b_bLeft, b_bWidth, b_bOp, b_bConstant, b_follow, b_ends, b_first, b_last, b_none, b_set, b_leads, b_apart, b_state, b_to, b, b_begins, b_nullable, b_act, b_built, b_leadTo, b_text, b_fits, b_token, b_stack, b_worth)) : wpY_carry post (nI pc, g_start, g_sets, nI ns, g_conflicts, g_ready, g_length, g_tokens, g_stuck, g_scanned, g_value, g_place, b_term, b_size, b_skipped, b_left, b_right, b_width, b_op, b_constant, b_rank, b_grouping, b_bTerm, b_bSize, b_bSkipped, b_bLeft, b_bWidth, b_bOp, b_bConstant, b_follow, b_ends, b_first, b_last, b_none, b_set, b_leads, b_apart, b_state, b_to, b_look, b_begins, b_nullable, b_act, b_built, b_leadTo, b_text, b_fits, b_token, b_stack, b_worth) :=
  ⟨1477, yk_2 hH hY hB h1 h2 H 1476 0 b_look (by omega) (fun k hk => absurd hk (Nat.not_lt_zero _))⟩
end
end
section
/-! actions -/
def stX (b : Bool) (p : Nat) (z : Nat × Nat) : Nat × Nat := if b then (if z.2 = 0 ∨ p = 8 then p else z.1, z.2 + 1) else z
def stY (b : Bool) (p : Nat) (z : Nat × Nat) : Nat × Nat := if b then (if z.1 = 8 then 8 else p, z.2 + (if z.1 = 9 then 0 else 1)) else z
def xfo (C : Nat → Bool) : Nat → Nat × Nat
  | 0 => (9, 0)
  | p + 1 => stX (C p) p (xfo C p)
def yfo (C : Nat → Bool) : Nat → Nat × Nat
  | 0 => (9, 0)
  | k + 1 => stY (C (8 - k)) (8 - k) (yfo C k)
def m9 (b0 b1 b2 b3 b4 b5 b6 b7 b8 : Bool) : Nat → Bool := fun t => match t with | 0 => b0 | 1 => b1 | 2 => b2 | 3 => b3 | 4 => b4 | 5 => b5 | 6 => b6 | 7 => b7 | _ => b8
theorem fo_9 : ∀ b0 b1 b2 b3 b4 b5 b6 b7 b8 : Bool, (yfo (m9 b0 b1 b2 b3 b4 b5 b6 b7 b8) 9).1 = (xfo (m9 b0 b1 b2 b3 b4 b5 b6 b7 b8) 9).1 ∧ (yfo (m9 b0 b1 b2 b3 b4 b5 b6 b7 b8) 9).2 = (xfo (m9 b0 b1 b2 b3 b4 b5 b6 b7 b8) 9).2 - 1 ∧
    ((xfo (m9 b0 b1 b2 b3 b4 b5 b6 b7 b8) 9).2 = 0 ↔ (xfo (m9 b0 b1 b2 b3 b4 b5 b6 b7 b8) 9).1 = 9) ∧ (xfo (m9 b0 b1 b2 b3 b4 b5 b6 b7 b8) 9).2 ≤ 9 ∧ ((xfo (m9 b0 b1 b2 b3 b4 b5 b6 b7 b8) 9).1 = 9 ∨ ((xfo (m9 b0 b1 b2 b3 b4 b5 b6 b7 b8) 9).1 < 9 ∧ m9 b0 b1 b2 b3 b4 b5 b6 b7 b8 (xfo (m9 b0 b1 b2 b3 b4 b5 b6 b7 b8) 9).1 = true)) := by decide +kernel
theorem xfo_c {C D : Nat → Bool} : ∀ n, (∀ p, p < n → C p = D p) → xfo C n = xfo D n
  | 0, _ => rfl
  | n + 1, h => by unfold xfo; rw [xfo_c n (fun p hp => h p (by omega)), h n (by omega)]
theorem yfo_c {C D : Nat → Bool} (h : ∀ p, p < 9 → C p = D p) : ∀ n, yfo C n = yfo D n
  | 0 => rfl
  | n + 1 => by unfold yfo; rw [yfo_c h n, h (8 - n) (by omega)]
theorem m9_e (C : Nat → Bool) : ∀ p, p < 9 → C p = m9 (C 0) (C 1) (C 2) (C 3) (C 4) (C 5) (C 6) (C 7) (C 8) p := by
  intro p hp
  have : p = 0 ∨ p = 1 ∨ p = 2 ∨ p = 3 ∨ p = 4 ∨ p = 5 ∨ p = 6 ∨ p = 7 ∨ p = 8 := by omega
  rcases this with rfl | rfl | rfl | rfl | rfl | rfl | rfl | rfl | rfl <;> rfl
theorem fo_e (C : Nat → Bool) : (yfo C 9).1 = (xfo C 9).1 ∧ (yfo C 9).2 = (xfo C 9).2 - 1 ∧ ((xfo C 9).2 = 0 ↔ (xfo C 9).1 = 9) ∧ (xfo C 9).2 ≤ 9 ∧ ((xfo C 9).1 = 9 ∨ ((xfo C 9).1 < 9 ∧ C (xfo C 9).1 = true)) := by
  have h := fo_9 (C 0) (C 1) (C 2) (C 3) (C 4) (C 5) (C 6) (C 7) (C 8)
  have e := m9_e C
  rw [← xfo_c 9 e, ← yfo_c e 9] at h
  obtain ⟨h1, h2, h3, h4, h5⟩ := h
  refine ⟨h1, h2, h3, h4, h5.imp id (fun ⟨a, b⟩ => ⟨a, ?_⟩)⟩
  rw [e _ a]; exact b
def rkF (ra : Nat → Int32) (R : Nat → Nat → Nat) (p : Nat) : Nat → Int32
  | 0 => 0
  | k + 1 => if R p k < 4 then ra (R p k) else rkF ra R p k
/-- the action: the component's code, the reference's, and how many conflicts there were -/
def actF (on : Option Nat) (ch n : Nat) (r rt gt : Int32) : Int32 × Int32 × Nat :=
  match on with
  | none => (if ch = 9 then -1 else nI ch, if ch = 9 then 0 else if ch = 8 then 1 else nI (100 + ch), n - 1)
  | some q => if n = 0 then (9, nI (2 + q), 0) else if r = 0 ∨ rt = 0 then (9, nI (2 + q), n) else if r = rt then (if gt = 0 then (nI ch, nI (100 + ch), n - 1) else if gt = 1 then (9, nI (2 + q), n - 1) else (-1, 0, n - 1)) else if r ≤ rt then (9, nI (2 + q), n - 1) else (nI ch, nI (100 + ch), n - 1)
def crB (W : Nat → Nat) (G : Nat → Int64) (la : Nat → Nat → Int32) (s t p : Nat) : Bool := bl (G s) (4 * p + W p) && bt (la s (4 * p + W p)) t
def onF (M : Nat → Int32) (s t : Nat) : Option Nat := if t < 4 ∧ M (7 * s + t) ≠ -1 then some (M (7 * s + t)).toNatClampNeg else none
def actO (W : Nat → Nat) (R : Nat → Nat → Nat) (G : Nat → Int64) (M : Nat → Int32) (la : Nat → Nat → Int32) (ra gr : Nat → Int32) (s t : Nat) : Int32 × Int32 × Nat :=
  actF (onF M s t) (xfo (crB W G la s t) 9).1 (xfo (crB W G la s t) 9).2 (rkF ra R (xfo (crB W G la s t) 9).1 (W (xfo (crB W G la s t) 9).1)) (ra t) (gr t)
section
variable {f_productionCount f_textLength f_anythingBuilt f_tokenCount f_parseValue f_parsePlace : Int32} {a_ruleTerms a_ruleLengths a_skips a_grammar a_ranks a_groupings a_text a_heads a_tails a_empties a_placeLetters a_followers a_ruleEnds : Nat → Int32} {a_sets : Nat → Int64} {a_steps a_classes a_finerClasses : Nat → Int32} {a_states : Nat → Int64} {a_moves a_begins a_lookaheads a_builtCounts a_builtSteps a_builtMatches a_builtSkips a_builtGrammar a_builtMoves a_builtActions a_tokenRules a_tokenBegins a_tokenEnds a_stackStates a_stackValues : Nat → Int32} {pc ns : Nat} {L W : Nat → Nat} {R : Nat → Nat → Nat} {G : Nat → Int64} {M : Nat → Int32} {la : Nat → Nat → Int32}
theorem xrk_4 {post : Int32 → Prop} {p : Nat} (hp : p < 9) (hV : gr_V pc L W R) (hX : gr_X a_grammar L W R) (H : post (rkF a_ranks R p (W p))) : ∀ d k, k + d = W p → wX_rankOfProduction_4 post (nI p) f_productionCount f_textLength f_anythingBuilt f_tokenCount f_parseValue f_parsePlace a_ruleTerms a_ruleLengths a_skips a_grammar a_ranks a_groupings a_text a_heads a_tails a_empties a_placeLetters a_followers a_ruleEnds a_sets a_steps a_classes a_finerClasses a_states a_moves a_begins a_lookaheads a_builtCounts a_builtSteps a_builtMatches a_builtSkips a_builtGrammar a_builtMoves a_builtActions a_tokenRules a_tokenBegins a_tokenEnds a_stackStates a_stackValues (d + 1) (rkF a_ranks R p k) (nI k) := by
  have hw := (hV.2.1 p).2.1
  intro d
  induction d with
  | zero =>
    intro k hk
    refine pk_le 4 k (fun z => absurd z (by omega)) (fun _ => ?_)
    rw [show nI p * 4 + nI k = nI (4 * p + k) from by rw [show (4 : Int32) = nI 4 from rfl, pk_mul, nI_add]; congr 1; omega]
    refine xy_ (by omega) hV hX ?_
    have : nxt W R (4 * p + k) = -1 := by unfold nxt; rw [show (4 * p + k) / 4 = p by omega, if_neg (by omega)]
    rw [this]
    have e : k = W p := by omega
    rw [e]
    exact br_t rfl H
  | succ d ih =>
    intro k hk
    have ih' := ih (k + 1) (by omega)
    rw [rkF] at ih'
    refine pk_le 4 k (fun z => absurd z (by omega)) (fun _ => ?_)
    rw [show nI p * 4 + nI k = nI (4 * p + k) from by rw [show (4 : Int32) = nI 4 from rfl, pk_mul, nI_add]; congr 1; omega]
    refine xy_ (by omega) hV hX ?_
    have : nxt W R (4 * p + k) = nI (R p k) := by unfold nxt; rw [show (4 * p + k) / 4 = p by omega, show (4 * p + k) % 4 = k by omega, if_pos (by omega)]
    rw [this]
    have hsy := (hV.2.1 p).2.2 k (by omega)
    have hx13 : R p k < 13 := by rcases hsy with z | z <;> omega
    refine br_f (zn_ne1 (by omega)) ?_
    by_cases c : R p k < 4
    · rw [if_pos c] at ih'
      refine ib_t (R p k) 4 c (br_f (by decide) ⟨vp_in_nI c (by omega), ?_⟩)
      rw [nI_clamp (by omega)]
      exact nm_e (nm_r (nI_1 k) ih')
    · rw [if_neg c] at ih'
      exact ib_f (Or.inr (nI_le (a := 4) (by omega) (by omega))) (br_t rfl (nm_r (nI_1 k) ih'))
theorem xrk {post : Int32 → Prop} {p : Nat} (hp : p < 9) (hV : gr_V pc L W R) (hX : gr_X a_grammar L W R) (H : post (rkF a_ranks R p (W p))) : wpX_rankOfProduction post (f_productionCount, f_textLength, f_anythingBuilt, f_tokenCount, f_parseValue, f_parsePlace, a_ruleTerms, a_ruleLengths, a_skips, a_grammar, a_ranks, a_groupings, a_text, a_heads, a_tails, a_empties, a_placeLetters, a_followers, a_ruleEnds, a_sets, a_steps, a_classes, a_finerClasses, a_states, a_moves, a_begins, a_lookaheads, a_builtCounts, a_builtSteps, a_builtMatches, a_builtSkips, a_builtGrammar, a_builtMoves, a_builtActions, a_tokenRules, a_tokenBegins, a_tokenEnds, a_stackStates, a_stackValues) (nI p) := ⟨W p + 1, xrk_4 hp hV hX H (W p) 0 (by omega)⟩
theorem xcr {post : Int32 → Prop} {s p t : Nat} (hs : s < ns) (hns : ns ≤ 40) (hp : p < 9) (ht : t < 5) (hV : gr_V pc L W R) (hX : gr_X a_grammar L W R) (hG : ∀ s, s < ns → a_states s = G s) (hl : XL a_lookaheads la) (H : post (b2 (crB W G la s t p))) : wpX_canReduce post (f_productionCount, f_textLength, f_anythingBuilt, f_tokenCount, f_parseValue, f_parsePlace, a_ruleTerms, a_ruleLengths, a_skips, a_grammar, a_ranks, a_groupings, a_text, a_heads, a_tails, a_empties, a_placeLetters, a_followers, a_ruleEnds, a_sets, a_steps, a_classes, a_finerClasses, a_states, a_moves, a_begins, a_lookaheads, a_builtCounts, a_builtSteps, a_builtMatches, a_builtSkips, a_builtGrammar, a_builtMoves, a_builtActions, a_tokenRules, a_tokenBegins, a_tokenEnds, a_stackStates, a_stackValues) (nI s) (nI p) (nI t) := by
  have hw := (hV.2.1 p).2.1
  have h8 := hV.2.2.2.2.1
  have hi : 4 * p + W p < 34 := by
    by_cases e : p = 8
    · subst e; rw [h8]; omega
    · omega
  unfold wpX_canReduce
  dsimp only
  rw [show nI p * 7 + 1 = nI (7 * p + 1) from by rw [show (7 : Int32) = nI 7 from rfl, pk_mul, nI_1]; congr 1; omega, nI_clamp (by omega), (hX p hp).2.1, show nI p * 4 + nI (W p) = nI (4 * p + W p) from by rw [show (4 : Int32) = nI 4 from rfl, pk_mul, nI_add]; congr 1; omega]
  refine ⟨vp_in_nI (by omega) (by omega), nm_e ⟨vp_in_nI (by omega) (by omega), ?_⟩⟩
  rw [nI_clamp (show s < 2 ^ 31 by omega), hG s hs]
  unfold crB at H
  refine zb_b0 (4 * p + W p) (fun hb => ?_) (fun hb => ?_)
  · rw [hb] at H; exact H
  · rw [hb] at H
    rw [show nI s * 34 + nI (4 * p + W p) = nI (34 * s + (4 * p + W p)) from by rw [show (34 : Int32) = nI 34 from rfl, pk_mul, nI_add]; congr 1; omega, nI_clamp (show 34 * s + (4 * p + W p) < 2 ^ 31 by omega), hl s _ (by omega) hi]
    refine ⟨vp_in_nI (by omega) (by omega), zc_b0 t (fun hc => ?_) (fun hc => ?_)⟩
    · rw [hc] at H; exact H
    · rw [hc] at H; exact H
def cI (c : Nat) : Int32 := if c = 9 then -1 else nI c
theorem xse {post : Int32 → Prop} {p t : Nat} (hp : p < 9) (ht : t < 4) (hV : gr_V pc L W R) (hX : gr_X a_grammar L W R)
    (H : post (if rkF a_ranks R p (W p) = 0 ∨ a_ranks t = 0 then -2 else if rkF a_ranks R p (W p) = a_ranks t then (if a_groupings t = 0 then nI p else if a_groupings t = 1 then 9 else -1) else if rkF a_ranks R p (W p) ≤ a_ranks t then 9 else nI p)) : wpX_settleByRank post (f_productionCount, f_textLength, f_anythingBuilt, f_tokenCount, f_parseValue, f_parsePlace, a_ruleTerms, a_ruleLengths, a_skips, a_grammar, a_ranks, a_groupings, a_text, a_heads, a_tails, a_empties, a_placeLetters, a_followers, a_ruleEnds, a_sets, a_steps, a_classes, a_finerClasses, a_states, a_moves, a_begins, a_lookaheads, a_builtCounts, a_builtSteps, a_builtMatches, a_builtSkips, a_builtGrammar, a_builtMoves, a_builtActions, a_tokenRules, a_tokenBegins, a_tokenEnds, a_stackStates, a_stackValues) (nI p) (nI t) := by
  have it : vp_in (nI t) 4 := vp_in_nI ht (by omega)
  unfold wpX_settleByRank
  dsimp only
  rw [nI_clamp (show t < 2 ^ 31 by omega)]
  refine ib_t t 4 ht (br_f (by decide) (xrk hp hV hX ⟨it, nm_e ?_⟩))
  refine br_c (fun c => ?_) (fun c => br_c (fun c2 => ?_) (fun c2 => ?_))
  · rw [if_pos (Or.inl c)] at H; exact H
  · rw [if_pos (Or.inr c2)] at H; exact H
  · rw [if_neg (fun z => z.elim c c2)] at H
    refine br_c (fun e => ⟨it, br_c (fun g => ?_) (fun g => ⟨it, br_c (fun g2 => ?_) (fun g2 => ?_)⟩)⟩) (fun e => br_c (fun g => ?_) (fun g => ?_))
    · rw [if_pos e, if_pos g] at H; exact H
    · rw [if_pos e, if_neg g, if_pos g2] at H; exact H
    · rw [if_pos e, if_neg g, if_neg g2] at H; exact H
    · rw [if_neg e, if_pos g] at H; exact H
    · rw [if_neg e, if_neg g] at H; exact H
theorem xca {post : Int32 → SX → Prop} {s t : Nat} (hs : s < ns) (hns : ns ≤ 40) (ht : t < 5) (hV : gr_V pc L W R) (hX : gr_X a_grammar L W R) (hG : ∀ s, s < ns → a_states s = G s) (hl : XL a_lookaheads la) (hM : ∀ s x, s < ns → sym x → a_moves (13 * s + x) = M (7 * s + col x)) (hM4 : a_moves (13 * s + 4) = -1)
    (H : post (nI (actO W R G M la a_ranks a_groupings s t).2.2) (f_productionCount, f_textLength, f_anythingBuilt, f_tokenCount, f_parseValue, f_parsePlace, a_ruleTerms, a_ruleLengths, a_skips, a_grammar, a_ranks, a_groupings, a_text, a_heads, a_tails, a_empties, a_placeLetters, a_followers, a_ruleEnds, a_sets, a_steps, a_classes, a_finerClasses, a_states, a_moves, a_begins, a_lookaheads, a_builtCounts, a_builtSteps, a_builtMatches, a_builtSkips, a_builtGrammar, a_builtMoves, upd a_builtActions (5 * s + t) (actO W R G M la a_ranks a_groupings s t).1, a_tokenRules, a_tokenBegins, a_tokenEnds, a_stackStates, a_stackValues)) : wpX_chooseAction post (f_productionCount, f_textLength, f_anythingBuilt, f_tokenCount, f_parseValue, f_parsePlace, a_ruleTerms, a_ruleLengths, a_skips, a_grammar, a_ranks, a_groupings, a_text, a_heads, a_tails, a_empties, a_placeLetters, a_followers, a_ruleEnds, a_sets, a_steps, a_classes, a_finerClasses, a_states, a_moves, a_begins, a_lookaheads, a_builtCounts, a_builtSteps, a_builtMatches, a_builtSkips, a_builtGrammar, a_builtMoves, a_builtActions, a_tokenRules, a_tokenBegins, a_tokenEnds, a_stackStates, a_stackValues) (nI s) (nI t) := by
  have e5 : nI s * 5 + nI t = nI (5 * s + t) := by rw [show (5 : Int32) = nI 5 from rfl, pk_mul, nI_add]; congr 1; omega
  have e13 : nI s * 13 + nI t = nI (13 * s + t) := by rw [show (13 : Int32) = nI 13 from rfl, pk_mul, nI_add]; congr 1; omega
  obtain ⟨-, -, f3, f4, f5⟩ := fo_e (crB W G la s t)
  have w111 : ∀ (c : Int32) (k : Nat), c = (actO W R G M la a_ranks a_groupings s t).1 → k = (actO W R G M la a_ranks a_groupings s t).2.2 → wX_chooseAction_111 post (nI s) (nI t) c (nI k) f_productionCount f_textLength f_anythingBuilt f_tokenCount f_parseValue f_parsePlace a_ruleTerms a_ruleLengths a_skips a_grammar a_ranks a_groupings a_text a_heads a_tails a_empties a_placeLetters a_followers a_ruleEnds a_sets a_steps a_classes a_finerClasses a_states a_moves a_begins a_lookaheads a_builtCounts a_builtSteps a_builtMatches a_builtSkips a_builtGrammar a_builtMoves a_builtActions a_tokenRules a_tokenBegins a_tokenEnds a_stackStates a_stackValues := by
    intro c k hc hk
    subst hc hk
    unfold wX_chooseAction_111
    rw [e5, nI_clamp (by omega)]
    exact ⟨vp_in_nI (by omega) (by omega), nm_e H⟩
  have fin : ∀ k : Nat, k = (xfo (crB W G la s t) 9).2 - 1 → wX_chooseAction_65 post (nI s) (nI t) (cI (xfo (crB W G la s t) 9).1) (nI (xfo (crB W G la s t) 9).2) (nI k) f_productionCount f_textLength f_anythingBuilt f_tokenCount f_parseValue f_parsePlace a_ruleTerms a_ruleLengths a_skips a_grammar a_ranks a_groupings a_text a_heads a_tails a_empties a_placeLetters a_followers a_ruleEnds a_sets a_steps a_classes a_finerClasses a_states a_moves a_begins a_lookaheads a_builtCounts a_builtSteps a_builtMatches a_builtSkips a_builtGrammar a_builtMoves a_builtActions a_tokenRules a_tokenBegins a_tokenEnds a_stackStates a_stackValues := by
    intro k hk
    unfold actO at w111
    generalize (xfo (crB W G la s t) 9).1 = ch at *
    generalize (xfo (crB W G la s t) 9).2 = n at *
    unfold wX_chooseAction_65
    rw [e13, nI_clamp (show 13 * s + t < 2 ^ 31 by omega)]
    refine ⟨vp_in_nI (by omega) (by omega), br_c (fun c => ?_) (fun c => ?_)⟩
    · have hon : onF M s t = none := by
        unfold onF
        by_cases z : t < 4
        · have := hM s t hs (Or.inl z)
          rw [c] at this
          unfold col at this
          rw [if_pos z] at this
          rw [if_neg (fun y => y.2 this.symm)]
        · rw [if_neg (fun y => z y.1)]
      rw [hon] at w111
      exact w111 _ k rfl hk
    · have ht4 : t < 4 := by
        rcases Nat.lt_or_ge t 4 with z | z
        · exact z
        · have : t = 4 := by omega
          subst this; exact absurd hM4 c
      have hmm := hM s t hs (Or.inl ht4)
      unfold col at hmm
      rw [if_pos ht4] at hmm
      rw [hmm] at c
      have hon : onF M s t = some (M (7 * s + t)).toNatClampNeg := by
        unfold onF; rw [if_pos ⟨ht4, c⟩]
      rw [hon] at w111
      unfold actF at w111
      dsimp only at w111
      refine pk_eq n 0 (fun n0 => ?_) (fun n0 => ?_)
      · rw [if_pos n0] at w111
        exact br_f (by decide) (w111 _ k rfl (by show k = 0; omega))
      · have hch : ch ≠ 9 := fun z => n0 (f3.mpr z)
        have hch9 : ch < 9 := by rcases f5 with z | z <;> omega
        rw [if_neg n0] at w111
        have ec : cI ch = nI ch := by unfold cI; rw [if_neg hch]
        rw [ec]
        refine xse hch9 ht4 hV hX ?_
        have nch : ¬ nI ch = -2 := by
          intro e
          have := congrArg Int32.toInt e
          rw [nI_toInt (by omega), show (-2 : Int32).toInt = -2 from by decide] at this
          omega
        by_cases r0 : rkF a_ranks R ch (W ch) = 0 ∨ a_ranks t = 0
        · rw [if_pos r0] at w111 ⊢
          exact br_t rfl (nm_r (e' := nI n) (by rw [nI_1]; congr 1; omega) (w111 _ n rfl rfl))
        · rw [if_neg r0] at w111 ⊢
          by_cases re : rkF a_ranks R ch (W ch) = a_ranks t
          · rw [if_pos re] at w111 ⊢
            by_cases g0 : a_groupings t = 0
            · rw [if_pos g0] at w111 ⊢
              exact br_f nch (w111 _ k rfl hk)
            · rw [if_neg g0] at w111 ⊢
              by_cases g1 : a_groupings t = 1
              · rw [if_pos g1] at w111 ⊢
                exact br_f (by decide) (w111 _ k rfl hk)
              · rw [if_neg g1] at w111 ⊢
                exact br_f (by decide) (w111 _ k rfl hk)
          · rw [if_neg re] at w111 ⊢
            by_cases rl : rkF a_ranks R ch (W ch) ≤ a_ranks t
            · rw [if_pos rl] at w111 ⊢
              exact br_f (by decide) (w111 _ k rfl hk)
            · rw [if_neg rl] at w111 ⊢
              exact br_f nch (w111 _ k rfl hk)
  have loop : ∀ d p, p + d = 9 → (xfo (crB W G la s t) p).2 ≤ p → wX_chooseAction_8 post (nI s) (nI t) f_productionCount f_textLength f_anythingBuilt f_tokenCount f_parseValue f_parsePlace a_ruleTerms a_ruleLengths a_skips a_grammar a_ranks a_groupings a_text a_heads a_tails a_empties a_placeLetters a_followers a_ruleEnds a_sets a_steps a_classes a_finerClasses a_states a_moves a_begins a_lookaheads a_builtCounts a_builtSteps a_builtMatches a_builtSkips a_builtGrammar a_builtMoves a_builtActions a_tokenRules a_tokenBegins a_tokenEnds a_stackStates a_stackValues (d + 1) (cI (xfo (crB W G la s t) p).1) (nI (xfo (crB W G la s t) p).2) (nI p) := by
    intro d
    induction d with
    | zero =>
      intro p hp hn
      have : p = 9 := by omega
      subst this
      refine pk_le 9 9 (fun _ => pk_le (xfo (crB W G la s t) 9).2 1 (fun c => fin 0 (by omega)) (fun c => ?_)) (fun z => absurd z (by omega))
      rw [show nI (xfo (crB W G la s t) 9).2 - 1 = nI ((xfo (crB W G la s t) 9).2 - 1) from by rw [show (1 : Int32) = nI 1 from rfl, pk_sub (by omega)]]
      exact fin _ rfl
    | succ d ih =>
      intro p hp hn
      have ih' := ih (p + 1) (by omega)
      rw [xfo] at ih'
      refine pk_le 9 p (fun z => absurd z (by omega)) (fun _ => xcr hs hns (by omega) ht hV hX hG hl ?_)
      generalize xfo (crB W G la s t) p = z at ih' hn
      unfold stX at ih'
      cases hc : crB W G la s t p with
      | false =>
        rw [hc, if_neg (show ¬ (false = true) by decide)] at ih'
        exact br_t rfl (nm_r (nI_1 p) (ih' (by omega)))
      | true =>
        rw [hc, if_pos rfl] at ih'
        have ih2 := ih' (by show z.2 + 1 ≤ p + 1; omega)
        dsimp only at ih2
        have ecp : cI p = nI p := by unfold cI; rw [if_neg (by omega)]
        refine br_f (by decide) (nm_r (nI_1 z.2) (pk_eq (z.2 + 1) 1 (fun e => nm_r (nI_1 p) ?_) (fun e => pk_eq p 8 (fun e8 => nm_r (nI_1 p) ?_) (fun n8 => nm_r (nI_1 p) ?_))))
        · rw [if_pos (Or.inl (by omega)), ecp] at ih2; exact ih2
        · rw [if_pos (Or.inr e8), ecp] at ih2; exact ih2
        · rw [if_neg (fun y => by omega)] at ih2; exact ih2
  exact ⟨10, loop 9 0 (by omega) (Nat.le_refl _)⟩
def cfT (f : Nat → Nat → Nat) : Nat → Nat
  | 0 => 0
  | k + 1 => cfT f k + f (k / 5) (k % 5)
theorem xka {post : Int32 → SX → Prop} (hns : ns ≤ 40) (hV : gr_V pc L W R) (hX : gr_X a_grammar L W R) (hG : ∀ s, s < ns → a_states s = G s) (hl : XL a_lookaheads la) (hM : ∀ s x, s < ns → sym x → a_moves (13 * s + x) = M (7 * s + col x)) (hM4 : ∀ s, s < ns → a_moves (13 * s + 4) = -1)
    (H : ∀ ac : Nat → Int32, (∀ k, k < 5 * ns → ac k = (actO W R G M la a_ranks a_groupings (k / 5) (k % 5)).1) → post (nI (cfT (fun s t => (actO W R G M la a_ranks a_groupings s t).2.2) (5 * ns))) (f_productionCount, f_textLength, f_anythingBuilt, f_tokenCount, f_parseValue, f_parsePlace, a_ruleTerms, a_ruleLengths, a_skips, a_grammar, a_ranks, a_groupings, a_text, a_heads, a_tails, a_empties, a_placeLetters, a_followers, a_ruleEnds, a_sets, a_steps, a_classes, a_finerClasses, a_states, a_moves, a_begins, a_lookaheads, a_builtCounts, a_builtSteps, a_builtMatches, a_builtSkips, a_builtGrammar, a_builtMoves, ac, a_tokenRules, a_tokenBegins, a_tokenEnds, a_stackStates, a_stackValues)) :
    wpX_keepActions post (f_productionCount, f_textLength, f_anythingBuilt, f_tokenCount, f_parseValue, f_parsePlace, a_ruleTerms, a_ruleLengths, a_skips, a_grammar, a_ranks, a_groupings, a_text, a_heads, a_tails, a_empties, a_placeLetters, a_followers, a_ruleEnds, a_sets, a_steps, a_classes, a_finerClasses, a_states, a_moves, a_begins, a_lookaheads, a_builtCounts, a_builtSteps, a_builtMatches, a_builtSkips, a_builtGrammar, a_builtMoves, a_builtActions, a_tokenRules, a_tokenBegins, a_tokenEnds, a_stackStates, a_stackValues) (nI ns) := by
  have row : ∀ (s : Nat), s < ns → ∀ (J4 : Int32 → Int32 → Int32 → Int32 → Int32 → Int32 → Int32 → Int32 → (Nat → Int32) → (Nat → Int32) → (Nat → Int32) → (Nat → Int32) → (Nat → Int32) → (Nat → Int32) → (Nat → Int32) → (Nat → Int32) → (Nat → Int32) → (Nat → Int32) → (Nat → Int32) → (Nat → Int32) → (Nat → Int32) → (Nat → Int64) → (Nat → Int32) → (Nat → Int32) → (Nat → Int32) → (Nat → Int64) → (Nat → Int32) → (Nat → Int32) → (Nat → Int32) → (Nat → Int32) → (Nat → Int32) → (Nat → Int32) → (Nat → Int32) → (Nat → Int32) → (Nat → Int32) → (Nat → Int32) → (Nat → Int32) → (Nat → Int32) → (Nat → Int32) → (Nat → Int32) → (Nat → Int32) → Prop), (∀ ac : Nat → Int32, (∀ k, k < 5 * (s + 1) → ac k = (actO W R G M la a_ranks a_groupings (k / 5) (k % 5)).1) → J4 (nI (cfT (fun s t => (actO W R G M la a_ranks a_groupings s t).2.2) (5 * (s + 1)))) (nI (s + 1)) f_productionCount f_textLength f_anythingBuilt f_tokenCount f_parseValue f_parsePlace a_ruleTerms a_ruleLengths a_skips a_grammar a_ranks a_groupings a_text a_heads a_tails a_empties a_placeLetters a_followers a_ruleEnds a_sets a_steps a_classes a_finerClasses a_states a_moves a_begins a_lookaheads a_builtCounts a_builtSteps a_builtMatches a_builtSkips a_builtGrammar a_builtMoves ac a_tokenRules a_tokenBegins a_tokenEnds a_stackStates a_stackValues) →
      ∀ d t (ac : Nat → Int32), t + d = 5 → (∀ k, k < 5 * s + t → ac k = (actO W R G M la a_ranks a_groupings (k / 5) (k % 5)).1) → wX_keepActions_18 post J4 (nI ns) (nI s) (d + 1) (nI (cfT (fun s t => (actO W R G M la a_ranks a_groupings s t).2.2) (5 * s + t))) (nI t) f_productionCount f_textLength f_anythingBuilt f_tokenCount f_parseValue f_parsePlace a_ruleTerms a_ruleLengths a_skips a_grammar a_ranks a_groupings a_text a_heads a_tails a_empties a_placeLetters a_followers a_ruleEnds a_sets a_steps a_classes a_finerClasses a_states a_moves a_begins a_lookaheads a_builtCounts a_builtSteps a_builtMatches a_builtSkips a_builtGrammar a_builtMoves ac a_tokenRules a_tokenBegins a_tokenEnds a_stackStates a_stackValues := by
    intro s hs J4 HJ d
    induction d with
    | zero =>
      intro t ac ht h
      have : t = 5 := by omega
      subst this
      exact pk_le 5 5 (fun _ => nm_r (nI_1 s) (HJ ac h)) (fun z => absurd z (by omega))
    | succ d ih =>
      intro t ac ht h
      refine pk_le 5 t (fun z => absurd z (by omega)) (fun _ => xca (a_builtActions := ac) hs hns (by omega) hV hX hG hl hM (hM4 s hs) ?_)
      dsimp only
      have e1 : (5 * s + t) / 5 = s := by omega
      have e2 : (5 * s + t) % 5 = t := by omega
      have ec : cfT (fun s t => (actO W R G M la a_ranks a_groupings s t).2.2) (5 * s + (t + 1)) = cfT (fun s t => (actO W R G M la a_ranks a_groupings s t).2.2) (5 * s + t) + (actO W R G M la a_ranks a_groupings s t).2.2 := by
        rw [← Nat.add_assoc, cfT, e1, e2]
      refine nm_r (e' := nI (cfT (fun s t => (actO W R G M la a_ranks a_groupings s t).2.2) (5 * s + (t + 1)))) (by rw [nI_add, ec]) (nm_r (nI_1 t) (ih (t + 1) _ (by omega) (fun k hk => ?_)))
      by_cases e : k = 5 * s + t
      · subst e; rw [pk_us, e1, e2]
      · rw [pk_un e]; exact h k (by omega)
  have all : ∀ d s (ac : Nat → Int32), s + d = ns → (∀ k, k < 5 * s → ac k = (actO W R G M la a_ranks a_groupings (k / 5) (k % 5)).1) → wX_keepActions_4 post (nI ns) (d + 1) (nI (cfT (fun s t => (actO W R G M la a_ranks a_groupings s t).2.2) (5 * s))) (nI s) f_productionCount f_textLength f_anythingBuilt f_tokenCount f_parseValue f_parsePlace a_ruleTerms a_ruleLengths a_skips a_grammar a_ranks a_groupings a_text a_heads a_tails a_empties a_placeLetters a_followers a_ruleEnds a_sets a_steps a_classes a_finerClasses a_states a_moves a_begins a_lookaheads a_builtCounts a_builtSteps a_builtMatches a_builtSkips a_builtGrammar a_builtMoves ac a_tokenRules a_tokenBegins a_tokenEnds a_stackStates a_stackValues := by
    intro d
    induction d with
    | zero =>
      intro s ac hs h
      have : s = ns := by omega
      subst this
      exact pk_le 40 s (fun _ => H ac h) (fun _ => pk_le s s (fun _ => H ac h) (fun z => absurd z (by omega)))
    | succ d ih =>
      intro s ac hs h
      exact pk_le 40 s (fun z => absurd z (by omega)) (fun _ => pk_le ns s (fun z => absurd z (by omega)) (fun _ => ⟨6, row s (by omega) _ (fun ac' h' => ih (s + 1) ac' (by omega) h') 5 0 ac (by omega) h⟩))
  exact ⟨ns + 1, all ns 0 a_builtActions (by omega) (fun k hk => absurd hk (Nat.not_lt_zero _))⟩
end
end
section
/-! actions: the reference -/
section
variable {g_productions : Int32} {g_start : Int64} {g_sets g_states g_conflicts g_ready g_length g_tokens g_stuck g_scanned g_value g_place : Int32} {b_term b_size b_skipped b_left b_right b_width b_op b_constant b_rank b_grouping b_bTerm b_bSize b_bSkipped b_bLeft b_bWidth b_bOp b_bConstant : Nat → Int32} {b_follow b_ends b_first b_last : Nat → Int64} {b_none : Nat → Int32} {b_set : Nat → Int64} {b_leads b_apart : Nat → Int32} {b_state : Nat → Int64} {b_to b_look b_begins b_nullable b_act b_built b_leadTo b_text b_fits b_token b_stack b_worth : Nat → Int32} {pc ns : Nat} {L W : Nat → Nat} {R : Nat → Nat → Nat} {la : Nat → Nat → Int32}
theorem yrk_4 {post : Int32 → Prop} {p : Nat} (hp : p < 9) (hV : gr_V pc L W R) (hY : gr_Y b_left b_right b_width L W R) (H : post (rkF b_rank R p (W p))) : ∀ d k, k + d = W p → wY_rankOf_4 post (nI p) g_productions g_start g_sets g_states g_conflicts g_ready g_length g_tokens g_stuck g_scanned g_value g_place b_term b_size b_skipped b_left b_right b_width b_op b_constant b_rank b_grouping b_bTerm b_bSize b_bSkipped b_bLeft b_bWidth b_bOp b_bConstant b_follow b_ends b_first b_last b_none b_set b_leads b_apart b_state b_to b_look b_begins b_nullable b_act b_built b_leadTo b_text b_fits b_token b_stack b_worth (d + 1) (rkF b_rank R p k) (nI k) := by
  have hw := (hV.2.1 p).2.1
  obtain ⟨g1, g2, g3⟩ := hY p hp
  have cp : (nI p).toNatClampNeg = p := nI_clamp (by omega)
  have ip : vp_in (nI p) 9 := vp_in_nI hp (by omega)
  intro d
  induction d with
  | zero =>
    intro k hk
    refine ⟨ip, ?_⟩
    rw [cp, g2]
    have e : k = W p := by omega
    rw [e]
    exact pk_le (W p) (W p) (fun _ => H) (fun z => absurd z (by omega))
  | succ d ih =>
    intro k hk
    have ih' := ih (k + 1) (by omega)
    rw [rkF] at ih'
    refine ⟨ip, ?_⟩
    rw [cp, g2]
    refine pk_le (W p) k (fun z => absurd z (by omega)) (fun _ => ?_)
    rw [show 3 * nI p + nI k = nI (3 * p + k) from by rw [show (3 : Int32) = nI 3 from rfl, pk_mul, nI_add], nI_clamp (by omega), g3 k (by omega)]
    have i27 : vp_in (nI (3 * p + k)) 27 := vp_in_nI (by omega) (by omega)
    have hsy := (hV.2.1 p).2.2 k (by omega)
    have hx13 : R p k < 13 := by rcases hsy with z | z <;> omega
    refine ⟨i27, pk_le 4 (R p k) (fun c => ?_) (fun c => ⟨i27, vp_in_nI c (by omega), ?_⟩)⟩
    · rw [if_neg (by omega)] at ih'
      exact nm_r (nI_1 k) ih'
    · rw [if_pos c] at ih'
      rw [nI_clamp (show R p k < 2 ^ 31 by omega)]
      exact nm_e (nm_r (nI_1 k) ih')
theorem yrk {post : Int32 → Prop} {p : Nat} (hp : p < 9) (hV : gr_V pc L W R) (hY : gr_Y b_left b_right b_width L W R) (H : post (rkF b_rank R p (W p))) : wpY_rankOf post (g_productions, g_start, g_sets, g_states, g_conflicts, g_ready, g_length, g_tokens, g_stuck, g_scanned, g_value, g_place, b_term, b_size, b_skipped, b_left, b_right, b_width, b_op, b_constant, b_rank, b_grouping, b_bTerm, b_bSize, b_bSkipped, b_bLeft, b_bWidth, b_bOp, b_bConstant, b_follow, b_ends, b_first, b_last, b_none, b_set, b_leads, b_apart, b_state, b_to, b_look, b_begins, b_nullable, b_act, b_built, b_leadTo, b_text, b_fits, b_token, b_stack, b_worth) (nI p) := ⟨W p + 1, yrk_4 hp hV hY H (W p) 0 (by omega)⟩
theorem yde {post : Int32 → SY → Prop} {s t c0 : Nat} (hs : s < ns) (hns : ns ≤ 40) (ht : t < 5) (hV : gr_V pc L W R) (hY : gr_Y b_left b_right b_width L W R) (hl : YL b_look la) (hE : ∀ s p, s < ns → pc ≤ p → p < 8 → bl (b_state s) (4 * p + W p) = false) (hMq : ∀ t, t < 4 → b_to (7 * s + t) = -1 ∨ ∃ q, q < 40 ∧ b_to (7 * s + t) = nI q)
    (H : post (actO W R b_state b_to la b_rank b_grouping s t).2.1 (nI pc, g_start, g_sets, g_states, nI (c0 + (actO W R b_state b_to la b_rank b_grouping s t).2.2), g_ready, g_length, g_tokens, g_stuck, g_scanned, g_value, g_place, b_term, b_size, b_skipped, b_left, b_right, b_width, b_op, b_constant, b_rank, b_grouping, b_bTerm, b_bSize, b_bSkipped, b_bLeft, b_bWidth, b_bOp, b_bConstant, b_follow, b_ends, b_first, b_last, b_none, b_set, b_leads, b_apart, b_state, b_to, b_look, b_begins, b_nullable, b_act, b_built, b_leadTo, b_text, b_fits, b_token, b_stack, b_worth)) : wpY_decide post (nI pc, g_start, g_sets, g_states, nI c0, g_ready, g_length, g_tokens, g_stuck, g_scanned, g_value, g_place, b_term, b_size, b_skipped, b_left, b_right, b_width, b_op, b_constant, b_rank, b_grouping, b_bTerm, b_bSize, b_bSkipped, b_bLeft, b_bWidth, b_bOp, b_bConstant, b_follow, b_ends, b_first, b_last, b_none, b_set, b_leads, b_apart, b_state, b_to, b_look, b_begins, b_nullable, b_act, b_built, b_leadTo, b_text, b_fits, b_token, b_stack, b_worth) (nI s) (nI t) := by
  have hpc := hV.1
  obtain ⟨f1, f2, f3, f4, f5⟩ := fo_e (crB W b_state la s t)
  have fin : ∀ z0 : Int32, (onF b_to s t = none ∧ z0 = -1) ∨ (∃ q, q < 40 ∧ onF b_to s t = some q ∧ z0 = nI q ∧ t < 4) →
      wY_decide_121 post (nI t) (cI (xfo (crB W b_state la s t) 9).1) z0 (nI pc) g_start g_sets g_states (nI (c0 + ((xfo (crB W b_state la s t) 9).2 - 1))) g_ready g_length g_tokens g_stuck g_scanned g_value g_place b_term b_size b_skipped b_left b_right b_width b_op b_constant b_rank b_grouping b_bTerm b_bSize b_bSkipped b_bLeft b_bWidth b_bOp b_bConstant b_follow b_ends b_first b_last b_none b_set b_leads b_apart b_state b_to b_look b_begins b_nullable b_act b_built b_leadTo b_text b_fits b_token b_stack b_worth := by
    intro z0 hz
    unfold actO at H
    generalize (xfo (crB W b_state la s t) 9).1 = ch at *
    generalize (xfo (crB W b_state la s t) 9).2 = n at *
    rcases hz with ⟨hon, rfl⟩ | ⟨q, hq, hon, rfl, ht4⟩
    · rw [hon] at H
      unfold actF at H
      dsimp only at H
      by_cases c9 : ch = 9
      · rw [if_pos c9] at H
        have : cI ch = -1 := by unfold cI; rw [if_pos c9]
        rw [this]
        exact br_f (by decide) (br_f (by decide) H)
      · rw [if_neg c9] at H
        have hch : ch < 9 := by rcases f5 with z | z <;> omega
        have : cI ch = nI ch := by unfold cI; rw [if_neg c9]
        rw [this]
        refine br_t (nI_pos' (by omega)) (br_f (by decide) (pk_eq ch 8 (fun e => ?_) (fun e => ?_)))
        · rw [if_pos e] at H; exact H
        · rw [if_neg e] at H
          rw [show 100 + nI ch = nI (100 + ch) from nI_add 100 ch]; exact H
    · rw [hon] at H
      unfold actF at H
      dsimp only at H
      have it : vp_in (nI t) 4 := vp_in_nI ht4 (by omega)
      have e2q : 2 + nI q = nI (2 + q) := nI_add 2 q
      by_cases n0 : n = 0
      · rw [if_pos n0] at H
        have c9 := f3.mp n0
        have : cI ch = -1 := by unfold cI; rw [if_pos c9]
        rw [this]
        refine br_f (by decide) (br_t (nI_pos' (by omega)) ?_)
        rw [e2q, n0]; exact H
      · rw [if_neg n0] at H
        have c9 : ch ≠ 9 := fun z => n0 (f3.mpr z)
        have hch : ch < 9 := by rcases f5 with z | z <;> omega
        have : cI ch = nI ch := by unfold cI; rw [if_neg c9]
        rw [this]
        refine br_t (nI_pos' (by omega)) (br_t (nI_pos' (by omega)) (yrk hch hV hY ?_))
        rw [nI_clamp (show t < 2 ^ 31 by omega), e2q, show 100 + nI ch = nI (100 + ch) from nI_add 100 ch]
        have w182 : rkF b_rank R ch (W ch) = 0 ∨ b_rank t = 0 → wY_decide_182 post (nI q) (nI pc) g_start g_sets g_states (nI (c0 + (n - 1))) g_ready g_length g_tokens g_stuck g_scanned g_value g_place b_term b_size b_skipped b_left b_right b_width b_op b_constant b_rank b_grouping b_bTerm b_bSize b_bSkipped b_bLeft b_bWidth b_bOp b_bConstant b_follow b_ends b_first b_last b_none b_set b_leads b_apart b_state b_to b_look b_begins b_nullable b_act b_built b_leadTo b_text b_fits b_token b_stack b_worth := by
          intro r0
          rw [if_pos r0] at H
          unfold wY_decide_182
          rw [e2q]
          refine nm_r (e' := nI (c0 + n)) (by rw [nI_1]; congr 1; omega) H
        refine br_c (fun r => w182 (Or.inl r)) (fun r => ⟨it, br_c (fun r2 => w182 (Or.inr r2)) (fun r2 => ⟨it, ?_⟩)⟩)
        rw [if_neg (fun z => z.elim r r2)] at H
        refine br_c (fun e => ⟨it, br_c (fun g => ?_) (fun g => ⟨it, br_c (fun g2 => ?_) (fun g2 => ?_)⟩)⟩) (fun e => ⟨it, br_c (fun g => ?_) (fun g => ?_)⟩)
        · rw [if_pos e, if_pos g] at H; exact H
        · rw [if_pos e, if_neg g, if_pos g2] at H; exact H
        · rw [if_pos e, if_neg g, if_neg g2] at H; exact H
        · rw [if_neg e, if_pos g] at H; exact H
        · rw [if_neg e, if_neg g] at H; exact H
  have loop : ∀ d k, k + d = 9 → (yfo (crB W b_state la s t) k).1 ≤ 9 → wY_decide_6 post (nI s) (nI t) (nI pc) g_start g_sets g_states g_ready g_length g_tokens g_stuck g_scanned g_value g_place b_term b_size b_skipped b_left b_right b_width b_op b_constant b_rank b_grouping b_bTerm b_bSize b_bSkipped b_bLeft b_bWidth b_bOp b_bConstant b_follow b_ends b_first b_last b_none b_set b_leads b_apart b_state b_to b_look b_begins b_nullable b_act b_built b_leadTo b_text b_fits b_token b_stack b_worth (d + 1) (cI (yfo (crB W b_state la s t) k).1) (nI (9 - k) + (-1)) (nI (c0 + (yfo (crB W b_state la s t) k).2)) := by
    intro d
    induction d with
    | zero =>
      intro k hk h9
      have : k = 9 := by omega
      subst this
      rw [f1, f2]
      refine br_t (by decide) (pk_le 4 t (fun c => fin _ (Or.inl ⟨?_, rfl⟩)) (fun c => ?_))
      · unfold onF; rw [if_neg (fun z => by omega)]
      · rw [show 7 * nI s + nI t = nI (7 * s + t) from by rw [show (7 : Int32) = nI 7 from rfl, pk_mul, nI_add], nI_clamp (by omega)]
        refine ⟨vp_in_nI (by omega) (by omega), fin _ ?_⟩
        rcases hMq t c with e | ⟨q, hq, e⟩
        · exact Or.inl ⟨by unfold onF; rw [if_neg (fun z => z.2 e)], e⟩
        · refine Or.inr ⟨q, hq, ?_, e, c⟩
          unfold onF; rw [e, if_pos ⟨c, zn_ne1 (by omega)⟩, nI_clamp (by omega)]
    | succ d ih =>
      intro k hk h9
      have ih' := ih (k + 1) (by omega)
      rw [yfo] at ih'
      have e8 : 9 - k = (8 - k) + 1 := by omega
      rw [e8, pk_m1]
      rw [show 9 - (k + 1) = 8 - k by omega] at ih'
      generalize yfo (crB W b_state la s t) k = z at ih' h9
      generalize hp : 8 - k = p at ih'
      have hp9 : p < 9 := by omega
      obtain ⟨g1, g2, g3⟩ := hY p hp9
      have hw := (hV.2.1 p).2.1
      have hi : 4 * p + W p < 34 := by
        by_cases e : p = 8
        · rw [e, hV.2.2.2.2.1]; omega
        · omega
      refine br_f (nI_pos (by omega)) ⟨vp_in_nI hp9 (by omega), ?_⟩
      rw [nI_clamp (show p < 2 ^ 31 by omega), g2, show 4 * nI p + nI (W p) = nI (4 * p + W p) from by rw [show (4 : Int32) = nI 4 from rfl, pk_mul, nI_add]]
      refine nm_e ?_
      unfold stY at ih'
      have no : crB W b_state la s t p = false → ∀ {x : Int32}, x = nI p + (-1) → wY_decide_6 post (nI s) (nI t) (nI pc) g_start g_sets g_states g_ready g_length g_tokens g_stuck g_scanned g_value g_place b_term b_size b_skipped b_left b_right b_width b_op b_constant b_rank b_grouping b_bTerm b_bSize b_bSkipped b_bLeft b_bWidth b_bOp b_bConstant b_follow b_ends b_first b_last b_none b_set b_leads b_apart b_state b_to b_look b_begins b_nullable b_act b_built b_leadTo b_text b_fits b_token b_stack b_worth (d + 1) (cI z.1) x (nI (c0 + z.2)) := by
        intro hc x hx
        rw [hc, if_neg (show ¬ (false = true) by decide)] at ih'
        rw [hx]
        exact ih' h9
      have is : vp_in (nI s) 41 := vp_in_nI (by omega) (by omega)
      rw [show 36 * nI s + nI (4 * p + W p) = nI (36 * s + (4 * p + W p)) from by rw [show (36 : Int32) = nI 36 from rfl, pk_mul, nI_add], nI_clamp (show 36 * s + (4 * p + W p) < 2 ^ 31 by omega)]
      refine pk_lt p pc (fun _ => br_f (by decide) ?_) (fun c => pk_eq p 8 (fun _ => br_f (by decide) ?_) (fun n8 => br_t rfl (fun x hx => no (by unfold crB; rw [hE s p hs c (by omega)]; rfl) hx)))
      all_goals
        refine ⟨is, ?_⟩
        rw [nI_clamp (show s < 2 ^ 31 by omega)]
        refine zb_b0 (4 * p + W p) (fun hb => fun x hx => no (by unfold crB; rw [hb]; rfl) hx) (fun hb => ⟨vp_in_nI (by omega) (by omega), ?_⟩)
        rw [hl s _ (by omega) hi]
        refine zc_b0 t (fun hc => fun x hx => no (by unfold crB; rw [hb, hc]; rfl) hx) (fun hc => ?_)
        have hC : crB W b_state la s t p = true := by unfold crB; rw [hb, hc]; rfl
        rw [hC, if_pos rfl] at ih'
        dsimp only at ih'
        have ih2 := ih' (by split <;> omega)
        have ecp : cI p = nI p := by unfold cI; rw [if_neg (by omega)]
        by_cases z9 : z.1 = 9
        · have ez : cI z.1 = -1 := by unfold cI; rw [if_pos z9]
          rw [ez]
          rw [if_neg (show ¬ z.1 = 8 by omega), if_pos z9, Nat.add_zero, ecp] at ih2
          exact br_t (by decide) (br_f (by decide) (nm_e ih2))
        · have ez : cI z.1 = nI z.1 := by unfold cI; rw [if_neg z9]
          rw [ez]
          rw [if_neg z9, ← Nat.add_assoc] at ih2
          refine br_f (nI_pos (by omega)) (nm_r (nI_1 (c0 + z.2)) (pk_eq z.1 8 (fun e => nm_e ?_) (fun e => nm_e ?_)))
          · rw [if_pos e] at ih2
            rw [e]; exact ih2
          · rw [if_neg e, ecp] at ih2; exact ih2
  exact ⟨10, loop 9 0 (by omega) (Nat.le_refl _)⟩
theorem ybu_54 {post : Int32 → SY → Prop} (hns : ns ≤ 40) (hV : gr_V pc L W R) (hY : gr_Y b_left b_right b_width L W R) (hl : YL b_look la) (hE : ∀ s p, s < ns → pc ≤ p → p < 8 → bl (b_state s) (4 * p + W p) = false) (hMq : ∀ s t, s < ns → t < 4 → b_to (7 * s + t) = -1 ∨ ∃ q, q < 40 ∧ b_to (7 * s + t) = nI q)
    (H : ∀ ac : Nat → Int32, (∀ k, k < 5 * ns → ac k = (actO W R b_state b_to la b_rank b_grouping (k / 5) (k % 5)).2.1) → ∃ n88 : Nat, wY_build_88 post (nI pc) g_start g_sets (nI ns) (nI (cfT (fun s t => (actO W R b_state b_to la b_rank b_grouping s t).2.2) (5 * ns))) g_ready g_length g_tokens g_stuck g_scanned g_value g_place n88 0 b_term b_size b_skipped b_left b_right b_width b_op b_constant b_rank b_grouping b_bTerm b_bSize b_bSkipped b_bLeft b_bWidth b_bOp b_bConstant b_follow b_ends b_first b_last b_none b_set b_leads b_apart b_state b_to b_look b_begins b_nullable ac b_built b_leadTo b_text b_fits b_token b_stack b_worth) :
    ∀ d k (ac : Nat → Int32), k + d = 5 * ns → (∀ j, j < k → ac j = (actO W R b_state b_to la b_rank b_grouping (j / 5) (j % 5)).2.1) → wY_build_54 post (d + 1) (nI k) (nI pc) g_start g_sets (nI ns) (nI (cfT (fun s t => (actO W R b_state b_to la b_rank b_grouping s t).2.2) k)) g_ready g_length g_tokens g_stuck g_scanned g_value g_place b_term b_size b_skipped b_left b_right b_width b_op b_constant b_rank b_grouping b_bTerm b_bSize b_bSkipped b_bLeft b_bWidth b_bOp b_bConstant b_follow b_ends b_first b_last b_none b_set b_leads b_apart b_state b_to b_look b_begins b_nullable ac b_built b_leadTo b_text b_fits b_token b_stack b_worth := by
  have e5 : 5 * nI ns = nI (5 * ns) := by rw [show (5 : Int32) = nI 5 from rfl, pk_mul]
  intro d
  induction d with
  | zero =>
    intro k ac hk h
    have : k = 5 * ns := by omega
    subst this
    exact pk_le (5 * ns) (5 * ns) (fun _ => H ac h) (fun z => absurd z (by omega)) e5
  | succ d ih =>
    intro k ac hk h
    refine pk_le (5 * ns) k (fun z => absurd z (by omega)) (fun _ => ?_) e5
    rw [show (5 : Int32) = nI 5 from rfl, pk_rem (by omega) (by omega) (by omega), pk_div (by omega) (by omega) (by omega)]
    refine ⟨by decide, by decide, yde (b_act := ac) (g_states := nI ns) (show k / 5 < ns by omega) hns (by omega) hV hY hl hE (fun t ht => hMq (k / 5) t (by omega) ht) ?_⟩
    dsimp only
    rw [nI_clamp (show k < 2 ^ 31 by omega)]
    refine ⟨vp_in_nI (by omega) (by omega), nm_e (nm_r (nI_1 k) (ih (k + 1) _ (by omega) (fun j hj => ?_)))⟩
    by_cases e : j = k
    · subst e; rw [pk_us]
    · rw [pk_un e]; exact h j (by omega)
end
end
section
/-! classes of sets: the pure picture, and the component -/
def dst (st : Nat → Int32) (s l : Nat) : Nat := (st (4 * s + l)).toNatClampNeg
def Eq_ (st mt : Nat → Int32) : Nat → Nat → Nat → Prop
  | 0, s, t => mt s = mt t
  | k + 1, s, t => Eq_ st mt k s t ∧ ∀ l, l < 4 → (st (4 * s + l) = -1 ↔ st (4 * t + l) = -1) ∧ (st (4 * s + l) ≠ -1 → Eq_ st mt k (dst st s l) (dst st t l))
theorem Eq_r {st mt : Nat → Int32} : ∀ k s, Eq_ st mt k s s
  | 0, _ => rfl
  | k + 1, s => ⟨Eq_r k s, fun l _ => ⟨Iff.rfl, fun _ => Eq_r k _⟩⟩
theorem Eq_s {st mt : Nat → Int32} : ∀ k s t, Eq_ st mt k s t → Eq_ st mt k t s
  | 0, _, _, h => Eq.symm h
  | k + 1, s, t, h => ⟨Eq_s k s t h.1, fun l hl => ⟨(h.2 l hl).1.symm, fun z => Eq_s k _ _ ((h.2 l hl).2 (fun y => z ((h.2 l hl).1.mp y)))⟩⟩
theorem Eq_t {st mt : Nat → Int32} : ∀ k s t u, Eq_ st mt k s t → Eq_ st mt k t u → Eq_ st mt k s u
  | 0, _, _, _, h, g => Eq.trans h g
  | k + 1, s, t, u, h, g => ⟨Eq_t k s t u h.1 g.1, fun l hl => ⟨(h.2 l hl).1.trans (g.2 l hl).1, fun z => Eq_t k _ _ _ ((h.2 l hl).2 z) ((g.2 l hl).2 (fun y => z ((h.2 l hl).1.mpr y)))⟩⟩
noncomputable def cP (P : Nat → Prop) : Nat → Nat
  | 0 => 0
  | n + 1 => cP P n + @ite Nat (P n) (Classical.propDecidable _) 1 0
theorem cP_t {P : Nat → Prop} {n : Nat} (h : P n) : cP P (n + 1) = cP P n + 1 := by rw [cP, if_pos h]
theorem cP_f {P : Nat → Prop} {n : Nat} (h : ¬ P n) : cP P (n + 1) = cP P n := by rw [cP, if_neg h, Nat.add_zero]
theorem cP_le {P : Nat → Prop} : ∀ n, cP P n ≤ n
  | 0 => Nat.le_refl _
  | n + 1 => by
    have := cP_le (P := P) n
    by_cases h : P n
    · rw [cP_t h]; omega
    · rw [cP_f h]; omega
theorem cP_m {P Q : Nat → Prop} : ∀ n, (∀ k, k < n → P k → Q k) → cP P n ≤ cP Q n
  | 0, _ => Nat.le_refl _
  | n + 1, h => by
    have := cP_m n (fun k hk => h k (by omega))
    by_cases hp : P n
    · rw [cP_t hp, cP_t (h n (by omega) hp)]; omega
    · rw [cP_f hp]
      by_cases hq : Q n
      · rw [cP_t hq]; omega
      · rw [cP_f hq]; omega
theorem cP_e {P Q : Nat → Prop} : ∀ n, (∀ k, k < n → P k → Q k) → cP P n = cP Q n → ∀ k, k < n → Q k → P k
  | 0, _, _, k, hk, _ => absurd hk (Nat.not_lt_zero _)
  | n + 1, h, e, k, hk, hq => by
    have hm := cP_m n (fun k hk => h k (by omega))
    have ih := cP_e n (fun k hk => h k (by omega))
    by_cases hp : P n
    · have hqn := h n (by omega) hp
      rw [cP_t hp, cP_t hqn] at e
      by_cases z : k = n
      · subst z; exact hp
      · exact ih (by omega) k (by omega) hq
    · by_cases hqn : Q n
      · rw [cP_f hp, cP_t hqn] at e; omega
      · rw [cP_f hp, cP_f hqn] at e
        by_cases z : k = n
        · subst z; exact absurd hq hqn
        · exact ih e k (by omega) hq
theorem cP_c {P Q : Nat → Prop} {n : Nat} (h : ∀ k, k < n → (P k ↔ Q k)) : cP P n = cP Q n := Nat.le_antisymm (cP_m n fun k hk => (h k hk).mp) (cP_m n fun k hk => (h k hk).mpr)
def Fst (st mt : Nat → Int32) (k s : Nat) : Prop := ∀ t, t < s → ¬ Eq_ st mt k t s
noncomputable def Nc (st mt : Nat → Int32) (c k : Nat) : Nat := cP (Fst st mt k) c
theorem Nc_m {st mt : Nat → Int32} {c k : Nat} : Nc st mt c k ≤ Nc st mt c (k + 1) := cP_m c (fun s _ h t ht z => h t ht z.1)
theorem Nc_1 {st mt : Nat → Int32} {c k : Nat} (hc : 1 ≤ c) : 1 ≤ Nc st mt c k := by
  have h0 : cP (fun s => s = 0) c ≤ cP (Fst st mt k) c := cP_m c (fun s _ h t ht => by omega)
  have h1 : ∀ n, 1 ≤ n → 1 ≤ cP (fun s => s = 0) n := by
    intro n
    induction n with
    | zero => intro h; omega
    | succ n ih =>
      intro _
      by_cases z : n = 0
      · subst z; rw [cP_t (P := fun s => s = 0) rfl]; omega
      · rw [cP_f (P := fun s => s = 0) z]; exact ih (by omega)
  have := h1 c hc
  unfold Nc; omega
theorem Nc_c {st mt : Nat → Int32} {c k : Nat} : Nc st mt c k ≤ c := cP_le c
/-- the same number of classes: the same classes -/
theorem Nc_e {st mt : Nat → Int32} {c k : Nat} (h : Nc st mt c (k + 1) = Nc st mt c k) {s t : Nat} (hs : s < c) (ht : t < c) : Eq_ st mt k s t → Eq_ st mt (k + 1) s t := by
  intro hE
  have fe := cP_e c (fun s _ (h : Fst st mt k s) t ht z => h t ht z.1) h.symm
  have least : ∀ s, s < c → ∃ a, a ≤ s ∧ Eq_ st mt (k + 1) a s ∧ Fst st mt (k + 1) a := by
    intro s _
    obtain ⟨a, h1, h2⟩ := pk_least (fun a => Eq_ st mt (k + 1) a s) ⟨s, Eq_r _ s⟩
    have hle : a ≤ s := by
      rcases Nat.lt_or_ge s a with z | z
      · exact absurd (Eq_r _ s) (h2 s z)
      · exact z
    exact ⟨a, hle, h1, fun t ht z => h2 t ht (Eq_t _ _ _ _ z h1)⟩
  obtain ⟨a, a1, a2, a3⟩ := least s hs
  obtain ⟨b, b1, b2, b3⟩ := least t ht
  have fa := fe a (by omega) a3
  have fb := fe b (by omega) b3
  have hab : Eq_ st mt k a b := Eq_t k _ _ _ a2.1 (Eq_t k _ _ _ hE (Eq_s k _ _ b2.1))
  have : a = b := by
    rcases Nat.lt_trichotomy a b with z | z | z
    · exact absurd hab (fb a z)
    · exact z
    · exact absurd (Eq_s k _ _ hab) (fa b z)
  subst this
  exact Eq_t _ _ _ _ (Eq_s _ _ _ a2) b2
/-- the round that brings nothing new -/
theorem Nc_end {st mt : Nat → Int32} {c : Nat} (hc : 1 ≤ c) (h61 : c ≤ 61) : ∃ K, 1 ≤ K ∧ K ≤ 61 ∧ Nc st mt c (K + 1) = Nc st mt c K ∧ ∀ k, 1 ≤ k → k < K → Nc st mt c (k + 1) ≠ Nc st mt c k := by
  have ex : ∃ K, 1 ≤ K ∧ Nc st mt c (K + 1) = Nc st mt c K := by
    refine Classical.byContradiction (fun hno => ?_)
    have gr : ∀ k, 1 ≤ k → k ≤ Nc st mt c k := by
      intro k
      induction k with
      | zero => intro h; omega
      | succ k ih =>
        intro _
        by_cases z : k = 0
        · subst z; exact Nc_1 hc
        · have h1 := ih (by omega)
          have h2 := Nc_m (st := st) (mt := mt) (c := c) (k := k)
          have h3 : Nc st mt c (k + 1) ≠ Nc st mt c k := fun e => hno ⟨k, by omega, e⟩
          omega
    have h1 := gr 62 (by omega)
    have h2 := Nc_c (st := st) (mt := mt) (c := c) (k := 62)
    omega
  obtain ⟨K, ⟨k1, k2⟩, k3⟩ := pk_least _ ex
  have gr : ∀ k, 1 ≤ k → k ≤ K → k ≤ Nc st mt c k := by
    intro k
    induction k with
    | zero => intro h; omega
    | succ k ih =>
      intro _ hk
      by_cases z : k = 0
      · subst z; exact Nc_1 hc
      · have h1 := ih (by omega) (by omega)
        have h2 := Nc_m (st := st) (mt := mt) (c := c) (k := k)
        have h3 : Nc st mt c (k + 1) ≠ Nc st mt c k := fun e => k3 k (by omega) ⟨by omega, e⟩
        omega
  have h1 := gr K k1 (Nat.le_refl _)
  have h2 := Nc_c (st := st) (mt := mt) (c := c) (k := K)
  exact ⟨K, k1, by omega, k2, fun k hk1 hk e => k3 k hk ⟨hk1, e⟩⟩
/-- steps and matches are within -/
def stO (st : Nat → Int32) (c : Nat) : Prop := ∀ s l, s < c → l < 4 → st (4 * s + l) = -1 ∨ ∃ k, k < c ∧ st (4 * s + l) = nI k
theorem dst_c {st : Nat → Int32} {c s l : Nat} (h : stO st c) (hc : c ≤ 61) (hs : s < c) (hl : l < 4) (hn : st (4 * s + l) ≠ -1) : dst st s l < c ∧ st (4 * s + l) = nI (dst st s l) := by
  rcases h s l hs hl with e | ⟨k, hk, e⟩
  · exact absurd e hn
  · unfold dst; rw [e, nI_clamp (by omega)]; exact ⟨hk, rfl⟩
section
variable {f_productionCount f_textLength f_anythingBuilt f_tokenCount f_parseValue f_parsePlace : Int32} {a_ruleTerms a_ruleLengths a_skips a_grammar a_ranks a_groupings a_text a_heads a_tails a_empties a_placeLetters a_followers a_ruleEnds : Nat → Int32} {a_sets : Nat → Int64} {a_steps a_classes a_finerClasses : Nat → Int32} {a_states : Nat → Int64} {a_moves a_begins a_lookaheads a_builtCounts a_builtSteps a_builtMatches a_builtSkips a_builtGrammar a_builtMoves a_builtActions a_tokenRules a_tokenBegins a_tokenEnds a_stackStates a_stackValues : Nat → Int32} {st mt : Nat → Int32} {c : Nat}
theorem xtw_19 {post : Int32 → Prop} {s t k : Nat} (hc : c ≤ 61) (hO : stO st c) (hst : ∀ j, j < 4 * c → a_steps j = st j) (hcl : ∀ s t, s < c → t < c → (a_classes s = a_classes t ↔ Eq_ st mt k s t)) (hs : s < c) (ht : t < c)
    (h1 : (∀ l, l < 4 → (st (4 * s + l) = -1 ↔ st (4 * t + l) = -1) ∧ (st (4 * s + l) ≠ -1 → Eq_ st mt k (dst st s l) (dst st t l))) → post 1)
    (h0 : (¬ ∀ l, l < 4 → (st (4 * s + l) = -1 ↔ st (4 * t + l) = -1) ∧ (st (4 * s + l) ≠ -1 → Eq_ st mt k (dst st s l) (dst st t l))) → post 0) :
    ∀ d l, l + d = 4 → (∀ m, m < l → (st (4 * s + m) = -1 ↔ st (4 * t + m) = -1) ∧ (st (4 * s + m) ≠ -1 → Eq_ st mt k (dst st s m) (dst st t m))) → wX_areTwins_19 post (nI s) (nI t) f_productionCount f_textLength f_anythingBuilt f_tokenCount f_parseValue f_parsePlace a_ruleTerms a_ruleLengths a_skips a_grammar a_ranks a_groupings a_text a_heads a_tails a_empties a_placeLetters a_followers a_ruleEnds a_sets a_steps a_classes a_finerClasses a_states a_moves a_begins a_lookaheads a_builtCounts a_builtSteps a_builtMatches a_builtSkips a_builtGrammar a_builtMoves a_builtActions a_tokenRules a_tokenBegins a_tokenEnds a_stackStates a_stackValues (d + 1) (nI l) := by
  intro d
  induction d with
  | zero =>
    intro l hl h
    have : l = 4 := by omega
    subst this
    exact pk_le 4 4 (fun _ => h1 h) (fun z => absurd z (by omega))
  | succ d ih =>
    intro l hl h
    have next : (st (4 * s + l) = -1 ↔ st (4 * t + l) = -1) ∧ (st (4 * s + l) ≠ -1 → Eq_ st mt k (dst st s l) (dst st t l)) → wX_areTwins_19 post (nI s) (nI t) f_productionCount f_textLength f_anythingBuilt f_tokenCount f_parseValue f_parsePlace a_ruleTerms a_ruleLengths a_skips a_grammar a_ranks a_groupings a_text a_heads a_tails a_empties a_placeLetters a_followers a_ruleEnds a_sets a_steps a_classes a_finerClasses a_states a_moves a_begins a_lookaheads a_builtCounts a_builtSteps a_builtMatches a_builtSkips a_builtGrammar a_builtMoves a_builtActions a_tokenRules a_tokenBegins a_tokenEnds a_stackStates a_stackValues (d + 1) (nI (l + 1)) := by
      intro hh
      refine ih (l + 1) (by omega) (fun m hm => ?_)
      by_cases e : m = l
      · subst e; exact hh
      · exact h m (by omega)
    have stop : ¬ ((st (4 * s + l) = -1 ↔ st (4 * t + l) = -1) ∧ (st (4 * s + l) ≠ -1 → Eq_ st mt k (dst st s l) (dst st t l))) → post 0 := fun hh => h0 fun hall => hh (hall l (by omega))
    refine pk_le 4 l (fun z => absurd z (by omega)) (fun _ => ?_)
    rw [show nI s * 4 + nI l = nI (4 * s + l) from by rw [show (4 : Int32) = nI 4 from rfl, pk_mul, nI_add]; congr 1; omega, show nI t * 4 + nI l = nI (4 * t + l) from by rw [show (4 : Int32) = nI 4 from rfl, pk_mul, nI_add]; congr 1; omega, nI_clamp (show 4 * s + l < 2 ^ 31 by omega), nI_clamp (show 4 * t + l < 2 ^ 31 by omega), hst _ (show 4 * s + l < 4 * c by omega), hst _ (show 4 * t + l < 4 * c by omega)]
    refine ⟨vp_in_nI (by omega) (by omega), nm_e ⟨vp_in_nI (by omega) (by omega), nm_e ?_⟩⟩
    have w60 : st (4 * s + l) = -1 ∨ st (4 * t + l) = -1 → wX_areTwins_60 post (wX_areTwins_19 post (nI s) (nI t) f_productionCount f_textLength f_anythingBuilt f_tokenCount f_parseValue f_parsePlace a_ruleTerms a_ruleLengths a_skips a_grammar a_ranks a_groupings a_text a_heads a_tails a_empties a_placeLetters a_followers a_ruleEnds a_sets a_steps a_classes a_finerClasses a_states a_moves a_begins a_lookaheads a_builtCounts a_builtSteps a_builtMatches a_builtSkips a_builtGrammar a_builtMoves a_builtActions a_tokenRules a_tokenBegins a_tokenEnds a_stackStates a_stackValues (d + 1)) (nI s) (nI t) (nI l) (st (4 * s + l)) (st (4 * t + l)) f_productionCount f_textLength f_anythingBuilt f_tokenCount f_parseValue f_parsePlace a_ruleTerms a_ruleLengths a_skips a_grammar a_ranks a_groupings a_text a_heads a_tails a_empties a_placeLetters a_followers a_ruleEnds a_sets a_steps a_classes a_finerClasses a_states a_moves a_begins a_lookaheads a_builtCounts a_builtSteps a_builtMatches a_builtSkips a_builtGrammar a_builtMoves a_builtActions a_tokenRules a_tokenBegins a_tokenEnds a_stackStates a_stackValues := by
      intro ho
      refine br_c (fun e => nm_r (nI_1 l) (next ?_)) (fun e => stop ?_)
      · refine ⟨by rw [e], fun hn => ?_⟩
        rcases ho with z | z
        · exact absurd z hn
        · exact absurd (e.trans z) hn
      · intro hh
        rcases ho with z | z
        · exact e (z.trans (hh.1.mp z).symm)
        · exact e ((hh.1.mpr z).trans z.symm)
    refine br_c (fun e => w60 (Or.inl e)) (fun e => br_c (fun e2 => w60 (Or.inr e2)) (fun e2 => ?_))
    obtain ⟨q1, q2⟩ := dst_c hO hc hs (show l < 4 by omega) e
    obtain ⟨q3, q4⟩ := dst_c hO hc ht (show l < 4 by omega) e2
    rw [q2, q4, nI_clamp (show dst st s l < 2 ^ 31 by omega), nI_clamp (show dst st t l < 2 ^ 31 by omega)]
    refine ⟨vp_in_nI (by omega) (by omega), vp_in_nI (by omega) (by omega), br_c (fun g => nm_r (nI_1 l) (next ⟨⟨fun z => absurd z e, fun z => absurd z e2⟩, fun _ => (hcl _ _ q1 q3).mp g⟩)) (fun g => stop (fun hh => g ((hcl _ _ q1 q3).mpr (hh.2 e))))⟩
theorem xtw {post : Int32 → Prop} {s t k : Nat} (hc : c ≤ 61) (hO : stO st c) (hst : ∀ j, j < 4 * c → a_steps j = st j) (hcl : ∀ s t, s < c → t < c → (a_classes s = a_classes t ↔ Eq_ st mt k s t)) (hs : s < c) (ht : t < c)
    (h1 : Eq_ st mt (k + 1) s t → post 1) (h0 : ¬ Eq_ st mt (k + 1) s t → post 0) : wpX_areTwins post (f_productionCount, f_textLength, f_anythingBuilt, f_tokenCount, f_parseValue, f_parsePlace, a_ruleTerms, a_ruleLengths, a_skips, a_grammar, a_ranks, a_groupings, a_text, a_heads, a_tails, a_empties, a_placeLetters, a_followers, a_ruleEnds, a_sets, a_steps, a_classes, a_finerClasses, a_states, a_moves, a_begins, a_lookaheads, a_builtCounts, a_builtSteps, a_builtMatches, a_builtSkips, a_builtGrammar, a_builtMoves, a_builtActions, a_tokenRules, a_tokenBegins, a_tokenEnds, a_stackStates, a_stackValues) (nI s) (nI t) := by
  unfold wpX_areTwins
  dsimp only
  rw [nI_clamp (show s < 2 ^ 31 by omega), nI_clamp (show t < 2 ^ 31 by omega)]
  refine ⟨vp_in_nI (by omega) (by omega), vp_in_nI (by omega) (by omega), br_c (fun e => ⟨5, ?_⟩) (fun e => h0 fun z => e ((hcl s t hs ht).mpr z.1))⟩
  have e' := (hcl s t hs ht).mp e
  exact xtw_19 hc hO hst hcl hs ht (fun hh => h1 ⟨e', hh⟩) (fun hh => h0 fun z => hh z.2) 4 0 (by omega) (fun m hm => absurd hm (Nat.not_lt_zero _))
theorem xft {post : Int32 → Prop} {s k : Nat} (hc : c ≤ 61) (hO : stO st c) (hst : ∀ j, j < 4 * c → a_steps j = st j) (hcl : ∀ s t, s < c → t < c → (a_classes s = a_classes t ↔ Eq_ st mt k s t)) (hs : s < c)
    (h1 : ∀ t, t < s → Eq_ st mt (k + 1) t s → post (nI t)) (h0 : Fst st mt (k + 1) s → post (nI s)) : wpX_firstTwin post (f_productionCount, f_textLength, f_anythingBuilt, f_tokenCount, f_parseValue, f_parsePlace, a_ruleTerms, a_ruleLengths, a_skips, a_grammar, a_ranks, a_groupings, a_text, a_heads, a_tails, a_empties, a_placeLetters, a_followers, a_ruleEnds, a_sets, a_steps, a_classes, a_finerClasses, a_states, a_moves, a_begins, a_lookaheads, a_builtCounts, a_builtSteps, a_builtMatches, a_builtSkips, a_builtGrammar, a_builtMoves, a_builtActions, a_tokenRules, a_tokenBegins, a_tokenEnds, a_stackStates, a_stackValues) (nI s) := by
  have loop : ∀ d o, o + d = s → (∀ t, t < o → ¬ Eq_ st mt (k + 1) t s) → wX_firstTwin_2 post (nI s) f_productionCount f_textLength f_anythingBuilt f_tokenCount f_parseValue f_parsePlace a_ruleTerms a_ruleLengths a_skips a_grammar a_ranks a_groupings a_text a_heads a_tails a_empties a_placeLetters a_followers a_ruleEnds a_sets a_steps a_classes a_finerClasses a_states a_moves a_begins a_lookaheads a_builtCounts a_builtSteps a_builtMatches a_builtSkips a_builtGrammar a_builtMoves a_builtActions a_tokenRules a_tokenBegins a_tokenEnds a_stackStates a_stackValues (d + 1) (nI o) := by
    intro d
    induction d with
    | zero =>
      intro o ho h
      have : o = s := by omega
      subst this
      exact pk_le 61 o (fun _ => h0 h) (fun _ => pk_le o o (fun _ => h0 h) (fun z => absurd z (by omega)))
    | succ d ih =>
      intro o ho h
      refine pk_le 61 o (fun z => absurd z (by omega)) (fun _ => pk_le s o (fun z => absurd z (by omega)) (fun _ => xtw hc hO hst hcl (by omega) hs (fun e => br_f (by decide) (h1 o (by omega) e)) (fun e => br_t rfl (nm_r (nI_1 o) (ih (o + 1) (by omega) (fun t ht => ?_))))))
      by_cases z : t = o
      · subst z; exact e
      · exact h t (by omega)
  exact ⟨s + 1, loop s 0 (by omega) (fun t ht => absurd ht (Nat.not_lt_zero _))⟩
theorem xrf {post : Int32 → SX → Prop} {k : Nat} (hc : c ≤ 61) (hO : stO st c) (hst : ∀ j, j < 4 * c → a_steps j = st j) (hcl : ∀ s t, s < c → t < c → (a_classes s = a_classes t ↔ Eq_ st mt k s t))
    (H : ∀ cl fi : Nat → Int32, (∀ s t, s < c → t < c → (cl s = cl t ↔ Eq_ st mt (k + 1) s t)) → post (nI (Nc st mt c (k + 1))) (f_productionCount, f_textLength, f_anythingBuilt, f_tokenCount, f_parseValue, f_parsePlace, a_ruleTerms, a_ruleLengths, a_skips, a_grammar, a_ranks, a_groupings, a_text, a_heads, a_tails, a_empties, a_placeLetters, a_followers, a_ruleEnds, a_sets, a_steps, cl, fi, a_states, a_moves, a_begins, a_lookaheads, a_builtCounts, a_builtSteps, a_builtMatches, a_builtSkips, a_builtGrammar, a_builtMoves, a_builtActions, a_tokenRules, a_tokenBegins, a_tokenEnds, a_stackStates, a_stackValues)) : wpX_refineClasses post (f_productionCount, f_textLength, f_anythingBuilt, f_tokenCount, f_parseValue, f_parsePlace, a_ruleTerms, a_ruleLengths, a_skips, a_grammar, a_ranks, a_groupings, a_text, a_heads, a_tails, a_empties, a_placeLetters, a_followers, a_ruleEnds, a_sets, a_steps, a_classes, a_finerClasses, a_states, a_moves, a_begins, a_lookaheads, a_builtCounts, a_builtSteps, a_builtMatches, a_builtSkips, a_builtGrammar, a_builtMoves, a_builtActions, a_tokenRules, a_tokenBegins, a_tokenEnds, a_stackStates, a_stackValues) (nI c) := by
  have copy : ∀ fi : Nat → Int32, (∀ s t, s < c → t < c → (fi s = fi t ↔ Eq_ st mt (k + 1) s t)) → ∀ d s (cl : Nat → Int32), s + d = c → (∀ j, j < s → cl j = fi j) → wX_refineClasses_62 post (nI c) (nI (Nc st mt c (k + 1))) f_productionCount f_textLength f_anythingBuilt f_tokenCount f_parseValue f_parsePlace (d + 1) (nI s) a_ruleTerms a_ruleLengths a_skips a_grammar a_ranks a_groupings a_text a_heads a_tails a_empties a_placeLetters a_followers a_ruleEnds a_sets a_steps cl fi a_states a_moves a_begins a_lookaheads a_builtCounts a_builtSteps a_builtMatches a_builtSkips a_builtGrammar a_builtMoves a_builtActions a_tokenRules a_tokenBegins a_tokenEnds a_stackStates a_stackValues := by
    intro fi hfi d
    induction d with
    | zero =>
      intro s cl hs h
      have : s = c := by omega
      subst this
      have h' := H cl fi (fun a b ha hb => by rw [h a ha, h b hb]; exact hfi a b ha hb)
      exact pk_le 61 s (fun _ => h') (fun _ => pk_le s s (fun _ => h') (fun z => absurd z (by omega)))
    | succ d ih =>
      intro s cl hs h
      have is : vp_in (nI s) 61 := vp_in_nI (by omega) (by omega)
      refine pk_le 61 s (fun z => absurd z (by omega)) (fun _ => pk_le c s (fun z => absurd z (by omega)) (fun _ => ⟨is, is, ?_⟩))
      rw [nI_clamp (show s < 2 ^ 31 by omega)]
      refine nm_e (nm_r (nI_1 s) (ih (s + 1) _ (by omega) (fun j hj => ?_)))
      by_cases e : j = s
      · subst e; exact pk_us
      · rw [pk_un e]; exact h j (by omega)
  have loop : ∀ d s (fi : Nat → Int32), s + d = c → (∀ a b, a < s → b < s → (fi a = fi b ↔ Eq_ st mt (k + 1) a b)) → (∀ a, a < s → ∃ m, m < cP (Fst st mt (k + 1)) s ∧ fi a = nI m) →
      wX_refineClasses_4 post (nI c) f_productionCount f_textLength f_anythingBuilt f_tokenCount f_parseValue f_parsePlace (d + 1) (nI (cP (Fst st mt (k + 1)) s)) (nI s) a_ruleTerms a_ruleLengths a_skips a_grammar a_ranks a_groupings a_text a_heads a_tails a_empties a_placeLetters a_followers a_ruleEnds a_sets a_steps a_classes fi a_states a_moves a_begins a_lookaheads a_builtCounts a_builtSteps a_builtMatches a_builtSkips a_builtGrammar a_builtMoves a_builtActions a_tokenRules a_tokenBegins a_tokenEnds a_stackStates a_stackValues := by
    intro d
    induction d with
    | zero =>
      intro s fi hs h1 h2
      have : s = c := by omega
      subst this
      have h' : ∃ n62 : Nat, wX_refineClasses_62 post (nI s) (nI (Nc st mt s (k + 1))) f_productionCount f_textLength f_anythingBuilt f_tokenCount f_parseValue f_parsePlace n62 0 a_ruleTerms a_ruleLengths a_skips a_grammar a_ranks a_groupings a_text a_heads a_tails a_empties a_placeLetters a_followers a_ruleEnds a_sets a_steps a_classes fi a_states a_moves a_begins a_lookaheads a_builtCounts a_builtSteps a_builtMatches a_builtSkips a_builtGrammar a_builtMoves a_builtActions a_tokenRules a_tokenBegins a_tokenEnds a_stackStates a_stackValues := ⟨s + 1, copy fi h1 s 0 a_classes (by omega) (fun j hj => absurd hj (Nat.not_lt_zero _))⟩
      exact pk_le 61 s (fun _ => h') (fun _ => pk_le s s (fun _ => h') (fun z => absurd z (by omega)))
    | succ d ih =>
      intro s fi hs h1 h2
      have hcp := cP_le (P := Fst st mt (k + 1)) s
      refine pk_le 61 s (fun z => absurd z (by omega)) (fun _ => pk_le c s (fun z => absurd z (by omega)) (fun _ => xft hc hO hst hcl (by omega) (fun t ht hE => ?_) (fun hF => ?_)))
      · have hnf : ¬ Fst st mt (k + 1) s := fun z => z t ht hE
        have ih' := ih (s + 1) (upd fi s (fi t)) (by omega)
        rw [cP_f hnf] at ih'
        have ne : ¬ nI t = nI s := by rw [nI_eq (by omega) (by omega)]; omega
        refine br_f ne ⟨vp_in_nI (by omega) (by omega), ?_⟩
        unfold wX_refineClasses_44
        rw [nI_clamp (show t < 2 ^ 31 by omega), nI_clamp (show s < 2 ^ 31 by omega)]
        refine ⟨vp_in_nI (by omega) (by omega), nm_e (br_f ne (nm_r (nI_1 s) (ih' (fun a b ha hb => ?_) (fun a ha => ?_))))⟩
        · by_cases ea : a = s
          · subst ea
            rw [pk_us]
            by_cases eb : b = a
            · subst eb; rw [pk_us]; exact ⟨fun _ => Eq_r _ _, fun _ => rfl⟩
            · rw [pk_un eb, h1 t b ht (by omega)]
              exact ⟨fun z => Eq_t _ _ _ _ (Eq_s _ _ _ hE) z, fun z => Eq_t _ _ _ _ hE z⟩
          · rw [pk_un ea]
            by_cases eb : b = s
            · subst eb
              rw [pk_us, h1 a t (by omega) ht]
              exact ⟨fun z => Eq_t _ _ _ _ z hE, fun z => Eq_t _ _ _ _ z (Eq_s _ _ _ hE)⟩
            · rw [pk_un eb]; exact h1 a b (by omega) (by omega)
        · by_cases ea : a = s
          · subst ea; rw [pk_us]; exact h2 t ht
          · rw [pk_un ea]; exact h2 a (by omega)
      · have ih' := ih (s + 1) (upd fi s (nI (cP (Fst st mt (k + 1)) s))) (by omega)
        rw [cP_t hF] at ih'
        refine br_t rfl ?_
        unfold wX_refineClasses_44
        rw [nI_clamp (show s < 2 ^ 31 by omega)]
        have nof : ∀ a, a < s → fi a ≠ nI (cP (Fst st mt (k + 1)) s) := by
          intro a ha e
          obtain ⟨m, hm, em⟩ := h2 a ha
          rw [em] at e
          have := zn_inj (by omega) (by omega) e
          omega
        refine ⟨vp_in_nI (by omega) (by omega), nm_e (br_t rfl (nm_r (nI_1 _) (nm_r (nI_1 s) (ih' (fun a b ha hb => ?_) (fun a ha => ?_)))))⟩
        · by_cases ea : a = s
          · subst ea
            rw [pk_us]
            by_cases eb : b = a
            · subst eb; rw [pk_us]; exact ⟨fun _ => Eq_r _ _, fun _ => rfl⟩
            · rw [pk_un eb]
              exact ⟨fun z => absurd z.symm (nof b (by omega)), fun z => absurd (Eq_s _ _ _ z) (hF b (by omega))⟩
          · rw [pk_un ea]
            by_cases eb : b = s
            · subst eb
              rw [pk_us]
              exact ⟨fun z => absurd z (nof a (by omega)), fun z => absurd z (hF a (by omega))⟩
            · rw [pk_un eb]; exact h1 a b (by omega) (by omega)
        · by_cases ea : a = s
          · subst ea; rw [pk_us]; exact ⟨_, by omega, rfl⟩
          · rw [pk_un ea]
            obtain ⟨m, hm, em⟩ := h2 a (by omega)
            exact ⟨m, by omega, em⟩
  exact ⟨c + 1, loop c 0 a_finerClasses (by omega) (fun a b ha => absurd ha (Nat.not_lt_zero _)) (fun a ha => absurd ha (Nat.not_lt_zero _))⟩
theorem xcc {post : Int32 → SX → Prop} (h1c : 1 < c) (hc : c ≤ 61) (hO : stO st c) (hst : ∀ j, j < 4 * c → a_steps j = st j) (hmt : ∀ s, s < c → a_builtMatches s = mt s)
    {K : Nat} (hK : 1 ≤ K) (hK61 : K ≤ 61) (hE : Nc st mt c (K + 1) = Nc st mt c K) (hL : ∀ k, 1 ≤ k → k < K → Nc st mt c (k + 1) ≠ Nc st mt c k)
    (H : ∀ cl fi : Nat → Int32, post (nI (Nc st mt c K)) (f_productionCount, f_textLength, f_anythingBuilt, f_tokenCount, f_parseValue, f_parsePlace, a_ruleTerms, a_ruleLengths, a_skips, a_grammar, a_ranks, a_groupings, a_text, a_heads, a_tails, a_empties, a_placeLetters, a_followers, a_ruleEnds, a_sets, a_steps, cl, fi, a_states, a_moves, a_begins, a_lookaheads, a_builtCounts, a_builtSteps, a_builtMatches, a_builtSkips, a_builtGrammar, a_builtMoves, a_builtActions, a_tokenRules, a_tokenBegins, a_tokenEnds, a_stackStates, a_stackValues)) : wpX_countClasses post (f_productionCount, f_textLength, f_anythingBuilt, f_tokenCount, f_parseValue, f_parsePlace, a_ruleTerms, a_ruleLengths, a_skips, a_grammar, a_ranks, a_groupings, a_text, a_heads, a_tails, a_empties, a_placeLetters, a_followers, a_ruleEnds, a_sets, a_steps, a_classes, a_finerClasses, a_states, a_moves, a_begins, a_lookaheads, a_builtCounts, a_builtSteps, a_builtMatches, a_builtSkips, a_builtGrammar, a_builtMoves, a_builtActions, a_tokenRules, a_tokenBegins, a_tokenEnds, a_stackStates, a_stackValues) (nI c) := by
  have rounds : ∀ d k (x : Nat) (cl fi : Nat → Int32), k + d = K → ((k = 0 ∧ x = 0) ∨ (1 ≤ k ∧ x = Nc st mt c k)) → (∀ s t, s < c → t < c → (cl s = cl t ↔ Eq_ st mt k s t)) → wX_countClasses_42 post (nI c) (d + 1) (nI x) (nI k) f_productionCount f_textLength f_anythingBuilt f_tokenCount f_parseValue f_parsePlace a_ruleTerms a_ruleLengths a_skips a_grammar a_ranks a_groupings a_text a_heads a_tails a_empties a_placeLetters a_followers a_ruleEnds a_sets a_steps cl fi a_states a_moves a_begins a_lookaheads a_builtCounts a_builtSteps a_builtMatches a_builtSkips a_builtGrammar a_builtMoves a_builtActions a_tokenRules a_tokenBegins a_tokenEnds a_stackStates a_stackValues := by
    intro d
    induction d with
    | zero =>
      intro k x cl fi hk hx h
      have : k = K := by omega
      subst this
      have ex : x = Nc st mt c k := by omega
      subst ex
      refine br_f (nI_nlt (a := 61) (by omega) (by omega)) (xrf (a_classes := cl) (a_finerClasses := fi) hc hO hst h (fun cl' fi' _ => ?_))
      dsimp only
      rw [hE]
      exact br_t rfl (H cl' fi')
    | succ d ih =>
      intro k x cl fi hk hx h
      refine br_f (nI_nlt (a := 61) (by omega) (by omega)) (xrf (a_classes := cl) (a_finerClasses := fi) hc hO hst h (fun cl' fi' h' => ?_))
      dsimp only
      have hn1 := Nc_c (st := st) (mt := mt) (c := c) (k := k + 1)
      have hx61 : x ≤ 61 := by
        rcases hx with ⟨_, z⟩ | ⟨_, z⟩
        · omega
        · have := Nc_c (st := st) (mt := mt) (c := c) (k := k); omega
      have hne : Nc st mt c (k + 1) ≠ x := by
        rcases hx with ⟨z, y⟩ | ⟨z, y⟩
        · have := Nc_1 (st := st) (mt := mt) (c := c) (k := k + 1) (by omega); omega
        · rw [y]; exact hL k z (by omega)
      exact br_f (by rw [nI_eq (by omega) (by omega)]; exact hne) (nm_r (nI_1 k) (ih (k + 1) _ cl' fi' (by omega) (Or.inr ⟨by omega, rfl⟩) h'))
  have copy : ∀ d s (cl : Nat → Int32), s + d = c → (∀ j, j < s → cl j = mt j) → wX_countClasses_9 post (nI c) f_productionCount f_textLength f_anythingBuilt f_tokenCount f_parseValue f_parsePlace (d + 1) (nI s) a_ruleTerms a_ruleLengths a_skips a_grammar a_ranks a_groupings a_text a_heads a_tails a_empties a_placeLetters a_followers a_ruleEnds a_sets a_steps cl a_finerClasses a_states a_moves a_begins a_lookaheads a_builtCounts a_builtSteps a_builtMatches a_builtSkips a_builtGrammar a_builtMoves a_builtActions a_tokenRules a_tokenBegins a_tokenEnds a_stackStates a_stackValues := by
    intro d
    induction d with
    | zero =>
      intro s cl hs h
      have : s = c := by omega
      subst this
      have h' : ∃ n42 : Nat, wX_countClasses_42 post (nI s) n42 0 0 f_productionCount f_textLength f_anythingBuilt f_tokenCount f_parseValue f_parsePlace a_ruleTerms a_ruleLengths a_skips a_grammar a_ranks a_groupings a_text a_heads a_tails a_empties a_placeLetters a_followers a_ruleEnds a_sets a_steps cl a_finerClasses a_states a_moves a_begins a_lookaheads a_builtCounts a_builtSteps a_builtMatches a_builtSkips a_builtGrammar a_builtMoves a_builtActions a_tokenRules a_tokenBegins a_tokenEnds a_stackStates a_stackValues := ⟨K + 1, rounds K 0 0 cl a_finerClasses (by omega) (Or.inl ⟨rfl, rfl⟩) (fun a b ha hb => by rw [h a ha, h b hb]; rfl)⟩
      exact pk_le 61 s (fun _ => h') (fun _ => pk_le s s (fun _ => h') (fun z => absurd z (by omega)))
    | succ d ih =>
      intro s cl hs h
      have is : vp_in (nI s) 61 := vp_in_nI (by omega) (by omega)
      refine pk_le 61 s (fun z => absurd z (by omega)) (fun _ => pk_le c s (fun z => absurd z (by omega)) (fun _ => ⟨is, is, ?_⟩))
      rw [nI_clamp (show s < 2 ^ 31 by omega), hmt s (by omega)]
      refine nm_e (nm_r (nI_1 s) (ih (s + 1) _ (by omega) (fun j hj => ?_)))
      by_cases e : j = s
      · subst e; exact pk_us
      · rw [pk_un e]; exact h j (by omega)
  refine br_f (by rw [show (1 : Int32) = nI 1 from rfl, nI_eq (by omega) (by omega)]; omega) ⟨c + 1, copy c 0 a_classes (by omega) (fun j hj => absurd hj (Nat.not_lt_zero _))⟩
end
end
section
/-! classes of sets: the reference; matches -/
def mtc (en : Nat → Int64) (x : Int64) : Nat → Nat → Int32
  | 0, _ => -1
  | d + 1, r => if x &&& en r = 0 then mtc en x d (r + 1) else nI r
section
variable {f_productionCount f_textLength f_anythingBuilt f_tokenCount f_parseValue f_parsePlace : Int32} {a_ruleTerms a_ruleLengths a_skips a_grammar a_ranks a_groupings a_text a_heads a_tails a_empties a_placeLetters a_followers a_ruleEnds : Nat → Int32} {a_sets : Nat → Int64} {a_steps a_classes a_finerClasses : Nat → Int32} {a_states : Nat → Int64} {a_moves a_begins a_lookaheads a_builtCounts a_builtSteps a_builtMatches a_builtSkips a_builtGrammar a_builtMoves a_builtActions a_tokenRules a_tokenBegins a_tokenEnds a_stackStates a_stackValues : Nat → Int32}
theorem xlr {post : Int32 → Prop} {v w : Int64} {en : Nat → Int64} (hi : ∀ r, r < 4 → (((a_ruleEnds r).toInt64 &&& v) = 0 ↔ (w &&& en r) = 0)) (H : post (mtc en w 4 0)) : wpX_leastRuleEndingIn post (f_productionCount, f_textLength, f_anythingBuilt, f_tokenCount, f_parseValue, f_parsePlace, a_ruleTerms, a_ruleLengths, a_skips, a_grammar, a_ranks, a_groupings, a_text, a_heads, a_tails, a_empties, a_placeLetters, a_followers, a_ruleEnds, a_sets, a_steps, a_classes, a_finerClasses, a_states, a_moves, a_begins, a_lookaheads, a_builtCounts, a_builtSteps, a_builtMatches, a_builtSkips, a_builtGrammar, a_builtMoves, a_builtActions, a_tokenRules, a_tokenBegins, a_tokenEnds, a_stackStates, a_stackValues) v := by
  have loop : ∀ d r, r + d = 4 → post (mtc en w d r) → wX_leastRuleEndingIn_2 post v f_productionCount f_textLength f_anythingBuilt f_tokenCount f_parseValue f_parsePlace a_ruleTerms a_ruleLengths a_skips a_grammar a_ranks a_groupings a_text a_heads a_tails a_empties a_placeLetters a_followers a_ruleEnds a_sets a_steps a_classes a_finerClasses a_states a_moves a_begins a_lookaheads a_builtCounts a_builtSteps a_builtMatches a_builtSkips a_builtGrammar a_builtMoves a_builtActions a_tokenRules a_tokenBegins a_tokenEnds a_stackStates a_stackValues (d + 1) (nI r) := by
    intro d
    induction d with
    | zero =>
      intro r hr h
      have : r = 4 := by omega
      subst this
      exact pk_le 4 4 (fun _ => h) (fun z => absurd z (by omega))
    | succ d ih =>
      intro r hr h
      unfold mtc at h
      refine pk_le 4 r (fun z => absurd z (by omega)) (fun _ => ⟨vp_in_nI (by omega) (by omega), ?_⟩)
      rw [nI_clamp (show r < 2 ^ 31 by omega)]
      refine br_c (fun e => ?_) (fun e => ?_)
      · rw [if_pos ((hi r (by omega)).mp e)] at h
        exact nm_r (nI_1 r) (ih (r + 1) (by omega) h)
      · rw [if_neg (fun z => e ((hi r (by omega)).mpr z))] at h
        exact h
  exact ⟨5, loop 4 0 (by omega) H⟩
end
section
variable {g_productions : Int32} {g_start : Int64} {g_sets g_states g_conflicts g_ready g_length g_tokens g_stuck g_scanned g_value g_place : Int32} {b_term b_size b_skipped b_left b_right b_width b_op b_constant b_rank b_grouping b_bTerm b_bSize b_bSkipped b_bLeft b_bWidth b_bOp b_bConstant : Nat → Int32} {b_follow b_ends b_first b_last : Nat → Int64} {b_none : Nat → Int32} {b_set : Nat → Int64} {b_leads b_apart : Nat → Int32} {b_state : Nat → Int64} {b_to b_look b_begins b_nullable b_act b_built b_leadTo b_text b_fits b_token b_stack b_worth : Nat → Int32} {c : Nat}
theorem ymt {post : Int32 → Prop} {s : Nat} (hs : s < 61) (H : post (mtc b_ends (b_set s) 4 0)) : wpY_matching post (g_productions, g_start, g_sets, g_states, g_conflicts, g_ready, g_length, g_tokens, g_stuck, g_scanned, g_value, g_place, b_term, b_size, b_skipped, b_left, b_right, b_width, b_op, b_constant, b_rank, b_grouping, b_bTerm, b_bSize, b_bSkipped, b_bLeft, b_bWidth, b_bOp, b_bConstant, b_follow, b_ends, b_first, b_last, b_none, b_set, b_leads, b_apart, b_state, b_to, b_look, b_begins, b_nullable, b_act, b_built, b_leadTo, b_text, b_fits, b_token, b_stack, b_worth) (nI s) := by
  have loop : ∀ d r, r + d = 4 → post (mtc b_ends (b_set s) d r) → wY_matching_2 post (nI s) g_productions g_start g_sets g_states g_conflicts g_ready g_length g_tokens g_stuck g_scanned g_value g_place b_term b_size b_skipped b_left b_right b_width b_op b_constant b_rank b_grouping b_bTerm b_bSize b_bSkipped b_bLeft b_bWidth b_bOp b_bConstant b_follow b_ends b_first b_last b_none b_set b_leads b_apart b_state b_to b_look b_begins b_nullable b_act b_built b_leadTo b_text b_fits b_token b_stack b_worth (d + 1) (nI r) := by
    intro d
    induction d with
    | zero =>
      intro r hr h
      have : r = 4 := by omega
      subst this
      exact pk_le 4 4 (fun _ => h) (fun z => absurd z (by omega))
    | succ d ih =>
      intro r hr h
      unfold mtc at h
      refine pk_le 4 r (fun z => absurd z (by omega)) (fun _ => ⟨vp_in_nI (by omega) (by omega), vp_in_nI (by omega) (by omega), ?_⟩)
      rw [nI_clamp (show r < 2 ^ 31 by omega), nI_clamp (show s < 2 ^ 31 by omega)]
      refine br_c (fun e => ?_) (fun e => ?_)
      · rw [if_pos e] at h
        exact nm_r (nI_1 r) (ih (r + 1) (by omega) h)
      · rw [if_neg e] at h
        exact h
  exact ⟨5, loop 4 0 (by omega) H⟩
def DF (st mt ap : Nat → Int32) (s t : Nat) : Prop := mt s ≠ mt t ∨ ∃ l, l < 4 ∧ (¬ (st (4 * s + l) = -1 ↔ st (4 * t + l) = -1) ∨ (st (4 * s + l) ≠ -1 ∧ st (4 * t + l) ≠ -1 ∧ ap (62 * dst st s l + dst st t l) ≠ 0))
theorem ydf {post : Int32 → Prop} {s t : Nat} (hc : c ≤ 61) (hO : stO b_leads c) (hs : s < c) (ht : t < c) (h1 : DF b_leads (fun s => mtc b_ends (b_set s) 4 0) b_apart s t → post 1) (h0 : ¬ DF b_leads (fun s => mtc b_ends (b_set s) 4 0) b_apart s t → post 0) : wpY_differ post (g_productions, g_start, g_sets, g_states, g_conflicts, g_ready, g_length, g_tokens, g_stuck, g_scanned, g_value, g_place, b_term, b_size, b_skipped, b_left, b_right, b_width, b_op, b_constant, b_rank, b_grouping, b_bTerm, b_bSize, b_bSkipped, b_bLeft, b_bWidth, b_bOp, b_bConstant, b_follow, b_ends, b_first, b_last, b_none, b_set, b_leads, b_apart, b_state, b_to, b_look, b_begins, b_nullable, b_act, b_built, b_leadTo, b_text, b_fits, b_token, b_stack, b_worth) (nI s) (nI t) := by
  have loop : mtc b_ends (b_set s) 4 0 = mtc b_ends (b_set t) 4 0 → ∀ d l, l + d = 4 → (∀ m, m < l → ¬ (¬ (b_leads (4 * s + m) = -1 ↔ b_leads (4 * t + m) = -1) ∨ (b_leads (4 * s + m) ≠ -1 ∧ b_leads (4 * t + m) ≠ -1 ∧ b_apart (62 * dst b_leads s m + dst b_leads t m) ≠ 0))) → wY_differ_24 post (nI s) (nI t) g_productions g_start g_sets g_states g_conflicts g_ready g_length g_tokens g_stuck g_scanned g_value g_place b_term b_size b_skipped b_left b_right b_width b_op b_constant b_rank b_grouping b_bTerm b_bSize b_bSkipped b_bLeft b_bWidth b_bOp b_bConstant b_follow b_ends b_first b_last b_none b_set b_leads b_apart b_state b_to b_look b_begins b_nullable b_act b_built b_leadTo b_text b_fits b_token b_stack b_worth (d + 1) (nI l) := by
    intro hm d
    induction d with
    | zero =>
      intro l hl h
      have : l = 4 := by omega
      subst this
      refine pk_le 4 4 (fun _ => h0 ?_) (fun z => absurd z (by omega))
      rintro (z | ⟨m, hm4, z⟩)
      · exact z hm
      · exact h m hm4 z
    | succ d ih =>
      intro l hl h
      have next : ¬ (¬ (b_leads (4 * s + l) = -1 ↔ b_leads (4 * t + l) = -1) ∨ (b_leads (4 * s + l) ≠ -1 ∧ b_leads (4 * t + l) ≠ -1 ∧ b_apart (62 * dst b_leads s l + dst b_leads t l) ≠ 0)) → wY_differ_24 post (nI s) (nI t) g_productions g_start g_sets g_states g_conflicts g_ready g_length g_tokens g_stuck g_scanned g_value g_place b_term b_size b_skipped b_left b_right b_width b_op b_constant b_rank b_grouping b_bTerm b_bSize b_bSkipped b_bLeft b_bWidth b_bOp b_bConstant b_follow b_ends b_first b_last b_none b_set b_leads b_apart b_state b_to b_look b_begins b_nullable b_act b_built b_leadTo b_text b_fits b_token b_stack b_worth (d + 1) (nI (l + 1)) := by
        intro hh
        refine ih (l + 1) (by omega) (fun m hm => ?_)
        by_cases e : m = l
        · subst e; exact hh
        · exact h m (by omega)
      have stop : (¬ (b_leads (4 * s + l) = -1 ↔ b_leads (4 * t + l) = -1) ∨ (b_leads (4 * s + l) ≠ -1 ∧ b_leads (4 * t + l) ≠ -1 ∧ b_apart (62 * dst b_leads s l + dst b_leads t l) ≠ 0)) → post 1 := fun hh => h1 (Or.inr ⟨l, by omega, hh⟩)
      refine pk_le 4 l (fun z => absurd z (by omega)) (fun _ => ?_)
      rw [show 4 * nI s + nI l = nI (4 * s + l) from by rw [show (4 : Int32) = nI 4 from rfl, pk_mul, nI_add], show 4 * nI t + nI l = nI (4 * t + l) from by rw [show (4 : Int32) = nI 4 from rfl, pk_mul, nI_add], nI_clamp (show 4 * s + l < 2 ^ 31 by omega), nI_clamp (show 4 * t + l < 2 ^ 31 by omega)]
      refine ⟨vp_in_nI (by omega) (by omega), nm_e ⟨vp_in_nI (by omega) (by omega), nm_e ?_⟩⟩
      by_cases e1 : b_leads (4 * s + l) = -1
      · rw [e1]
        refine br_f (by decide) ?_
        by_cases e2 : b_leads (4 * t + l) = -1
        · rw [e2]
          refine br_f (by decide) (br_t rfl (br_t (by decide) (nm_r (nI_1 l) (next ?_))))
          rintro (z | ⟨z, _⟩)
          · exact z ⟨fun _ => e2, fun _ => e1⟩
          · exact z e1
        · obtain ⟨q3, q4⟩ := dst_c hO hc ht (show l < 4 by omega) e2
          rw [q4]
          exact br_t (nI_pos' (by omega)) (br_f (by decide) (stop (Or.inl fun z => e2 (z.mp e1))))
      · obtain ⟨q1, q2⟩ := dst_c hO hc hs (show l < 4 by omega) e1
        by_cases e2 : b_leads (4 * t + l) = -1
        · rw [q2, e2]
          exact br_t (nI_pos' (by omega)) (br_f (by decide) (br_f (by decide) (stop (Or.inl fun z => e1 (z.mpr e2)))))
        · obtain ⟨q3, q4⟩ := dst_c hO hc ht (show l < 4 by omega) e2
          rw [q2, q4]
          refine br_t (nI_pos' (by omega)) (br_t (nI_pos' (by omega)) (br_t rfl (br_f (nI_pos (by omega)) ?_)))
          rw [show 62 * nI (dst b_leads s l) + nI (dst b_leads t l) = nI (62 * dst b_leads s l + dst b_leads t l) from by rw [show (62 : Int32) = nI 62 from rfl, pk_mul, nI_add], nI_clamp (show 62 * dst b_leads s l + dst b_leads t l < 2 ^ 31 by omega)]
          refine ⟨vp_in_nI (by omega) (by omega), br_c (fun a => nm_r (nI_1 l) (next ?_)) (fun a => stop (Or.inr ⟨e1, e2, a⟩))⟩
          rintro (z | ⟨_, _, z⟩)
          · exact z ⟨fun y => absurd y e1, fun y => absurd y e2⟩
          · exact z a
  unfold wpY_differ
  dsimp only
  refine ymt (by omega) (ymt (by omega) (br_c (fun e => ⟨5, loop e 4 0 (by omega) (fun m hm => absurd hm (Nat.not_lt_zero _))⟩) (fun e => h1 (Or.inl e))))
theorem y_classes {post : Int32 → SY → Prop} (h1 : 1 ≤ c) (hc : c ≤ 61) (hO : stO b_leads c) (hs0 : g_start = 0 ↔ c = 1) {K : Nat} (hE : Nc b_leads (fun s => mtc b_ends (b_set s) 4 0) c (K + 1) = Nc b_leads (fun s => mtc b_ends (b_set s) 4 0) c K)
    (H : ∀ ap : Nat → Int32, post (nI (if c = 1 then 0 else Nc b_leads (fun s => mtc b_ends (b_set s) 4 0) c K)) (g_productions, g_start, nI c, g_states, g_conflicts, g_ready, g_length, g_tokens, g_stuck, g_scanned, g_value, g_place, b_term, b_size, b_skipped, b_left, b_right, b_width, b_op, b_constant, b_rank, b_grouping, b_bTerm, b_bSize, b_bSkipped, b_bLeft, b_bWidth, b_bOp, b_bConstant, b_follow, b_ends, b_first, b_last, b_none, b_set, b_leads, ap, b_state, b_to, b_look, b_begins, b_nullable, b_act, b_built, b_leadTo, b_text, b_fits, b_token, b_stack, b_worth)) : wpY_classes post (g_productions, g_start, nI c, g_states, g_conflicts, g_ready, g_length, g_tokens, g_stuck, g_scanned, g_value, g_place, b_term, b_size, b_skipped, b_left, b_right, b_width, b_op, b_constant, b_rank, b_grouping, b_bTerm, b_bSize, b_bSkipped, b_bLeft, b_bWidth, b_bOp, b_bConstant, b_follow, b_ends, b_first, b_last, b_none, b_set, b_leads, b_apart, b_state, b_to, b_look, b_begins, b_nullable, b_act, b_built, b_leadTo, b_text, b_fits, b_token, b_stack, b_worth) := by
  generalize hmt : (fun s => mtc b_ends (b_set s) 4 0) = mt at hE H
  have e62 : 62 * nI c = nI (62 * c) := by rw [show (62 : Int32) = nI 62 from rfl, pk_mul]
  -- counting
  have count : ∀ ap : Nat → Int32, (∀ s t, s < c → t < c → (ap (62 * s + t) ≠ 0 ↔ ¬ Eq_ b_leads mt K s t)) → c ≠ 1 →
      ∀ d s, s + d = c → wY_classes_120 post g_productions g_start (nI c) g_states g_conflicts g_ready g_length g_tokens g_stuck g_scanned g_value g_place b_term b_size b_skipped b_left b_right b_width b_op b_constant b_rank b_grouping b_bTerm b_bSize b_bSkipped b_bLeft b_bWidth b_bOp b_bConstant b_follow b_ends b_first b_last b_none b_set b_leads ap b_state b_to b_look b_begins b_nullable b_act b_built b_leadTo b_text b_fits b_token b_stack b_worth (d + 1) (nI (cP (Fst b_leads mt K) s)) (nI s) := by
    intro ap hap hc1 d
    have hst : ¬ g_start = 0 := fun z => hc1 (hs0.mp z)
    induction d with
    | zero =>
      intro s hs
      have : s = c := by omega
      subst this
      have h' := H ap
      rw [if_neg hc1] at h'
      exact pk_le s s (fun _ => h') (fun z => absurd z (by omega))
    | succ d ih =>
      intro s hs
      have inner : ∀ d' t (f : Bool), t + d' = s → (f = true ↔ ∀ u, u < t → ¬ Eq_ b_leads mt K u s) → wY_classes_147 post (wY_classes_120 post g_productions g_start (nI c) g_states g_conflicts g_ready g_length g_tokens g_stuck g_scanned g_value g_place b_term b_size b_skipped b_left b_right b_width b_op b_constant b_rank b_grouping b_bTerm b_bSize b_bSkipped b_bLeft b_bWidth b_bOp b_bConstant b_follow b_ends b_first b_last b_none b_set b_leads ap b_state b_to b_look b_begins b_nullable b_act b_built b_leadTo b_text b_fits b_token b_stack b_worth (d + 1)) (nI (cP (Fst b_leads mt K) s)) (nI s) g_productions g_start (nI c) g_states g_conflicts g_ready g_length g_tokens g_stuck g_scanned g_value g_place b_term b_size b_skipped b_left b_right b_width b_op b_constant b_rank b_grouping b_bTerm b_bSize b_bSkipped b_bLeft b_bWidth b_bOp b_bConstant b_follow b_ends b_first b_last b_none b_set b_leads ap b_state b_to b_look b_begins b_nullable b_act b_built b_leadTo b_text b_fits b_token b_stack b_worth (d' + 1) (b2 f) (nI t) := by
        intro d'
        induction d' with
        | zero =>
          intro t f ht hf
          have : t = s := by omega
          subst this
          refine pk_le t t (fun _ => ?_) (fun z => absurd z (by omega))
          cases f with
          | false =>
            have : ¬ Fst b_leads mt K t := fun z => absurd (hf.mpr z) (by decide)
            have ih' := ih (t + 1) (by omega)
            rw [cP_f this] at ih'
            exact br_t rfl (nm_r (nI_1 t) ih')
          | true =>
            have : Fst b_leads mt K t := hf.mp rfl
            have ih' := ih (t + 1) (by omega)
            rw [cP_t this] at ih'
            exact br_f (by decide) (nm_r (nI_1 _) (nm_r (nI_1 t) ih'))
        | succ d' ih2 =>
          intro t f ht hf
          refine pk_le s t (fun z => absurd z (by omega)) (fun _ => ?_)
          cases f with
          | false =>
            refine br_t rfl (nm_r (nI_1 t) (ih2 (t + 1) false (by omega) ⟨fun z => absurd z (by decide), fun z => ?_⟩))
            exact hf.mpr (fun u hu => z u (by omega))
          | true =>
            have hall := hf.mp rfl
            refine br_f (by decide) ?_
            rw [show 62 * nI s + nI t = nI (62 * s + t) from by rw [show (62 : Int32) = nI 62 from rfl, pk_mul, nI_add], nI_clamp (show 62 * s + t < 2 ^ 31 by omega)]
            refine ⟨vp_in_nI (by omega) (by omega), br_c (fun a => nm_r (nI_1 t) (ih2 (t + 1) false (by omega) ⟨fun z => absurd z (by decide), fun z => ?_⟩)) (fun a => nm_r (nI_1 t) (ih2 (t + 1) true (by omega) ⟨fun _ u hu => ?_, fun _ => rfl⟩))⟩
            · exfalso
              have := (hap s t (by omega) (by omega)).mpr (fun y => z t (by omega) (Eq_s _ _ _ y))
              exact this a
            · by_cases e : u = t
              · subst e
                exact fun y => (hap s u (by omega) (by omega)).mp a (Eq_s _ _ _ y)
              · exact hall u (by omega)
      exact pk_le c s (fun z => absurd z (by omega)) (fun _ => br_f hst ⟨s + 1, inner s 0 true (by omega) ⟨fun _ u hu => absurd hu (Nat.not_lt_zero _), fun _ => rfl⟩⟩)
  -- one pass
  have pass : ∀ (ap0 : Nat → Int32) (J24 : Int32 → (Nat → Int32) → (Nat → Int32) → (Nat → Int32) → (Nat → Int32) → (Nat → Int32) → (Nat → Int32) → (Nat → Int32) → (Nat → Int32) → (Nat → Int32) → (Nat → Int32) → (Nat → Int32) → (Nat → Int32) → (Nat → Int32) → (Nat → Int32) → (Nat → Int32) → (Nat → Int32) → (Nat → Int32) → (Nat → Int64) → (Nat → Int64) → (Nat → Int64) → (Nat → Int64) → (Nat → Int32) → (Nat → Int64) → (Nat → Int32) → (Nat → Int32) → (Nat → Int64) → (Nat → Int32) → (Nat → Int32) → (Nat → Int32) → (Nat → Int32) → (Nat → Int32) → (Nat → Int32) → (Nat → Int32) → (Nat → Int32) → (Nat → Int32) → (Nat → Int32) → (Nat → Int32) → (Nat → Int32) → Prop), (∀ s t, s < c → t < c → ap0 (62 * s + t) ≠ 0 → ¬ Eq_ b_leads mt K s t) →
      (∀ (ap : Nat → Int32) (m : Bool), (∀ s t, s < c → t < c → ap (62 * s + t) ≠ 0 → ¬ Eq_ b_leads mt K s t) → (∀ j, ap0 j ≠ 0 → ap j ≠ 0) → (m = false → ap = ap0 ∧ ∀ s t, s < c → t < c → ap0 (62 * s + t) ≠ 0 ∨ ¬ DF b_leads mt ap0 s t) → (m = true → ∃ j, j < 3844 ∧ ap0 j = 0 ∧ ap j ≠ 0) → J24 (b2 m) b_term b_size b_skipped b_left b_right b_width b_op b_constant b_rank b_grouping b_bTerm b_bSize b_bSkipped b_bLeft b_bWidth b_bOp b_bConstant b_follow b_ends b_first b_last b_none b_set b_leads ap b_state b_to b_look b_begins b_nullable b_act b_built b_leadTo b_text b_fits b_token b_stack b_worth) →
      ∀ d k (ap : Nat → Int32) (m : Bool), k + d = 62 * c → (∀ s t, s < c → t < c → ap (62 * s + t) ≠ 0 → ¬ Eq_ b_leads mt K s t) → (∀ j, ap0 j ≠ 0 → ap j ≠ 0) → (m = false → ap = ap0 ∧ ∀ s t, s < c → t < c → 62 * s + t < k → ap0 (62 * s + t) ≠ 0 ∨ ¬ DF b_leads mt ap0 s t) → (m = true → ∃ j, j < 3844 ∧ ap0 j = 0 ∧ ap j ≠ 0) →
      wY_classes_32 post J24 g_productions g_start (nI c) g_states g_conflicts g_ready g_length g_tokens g_stuck g_scanned g_value g_place (d + 1) (b2 m) (nI k) b_term b_size b_skipped b_left b_right b_width b_op b_constant b_rank b_grouping b_bTerm b_bSize b_bSkipped b_bLeft b_bWidth b_bOp b_bConstant b_follow b_ends b_first b_last b_none b_set b_leads ap b_state b_to b_look b_begins b_nullable b_act b_built b_leadTo b_text b_fits b_token b_stack b_worth := by
    intro ap0 J24 hap0 HJ d
    induction d with
    | zero =>
      intro k ap m hk i1 i2 i3 i4
      have : k = 62 * c := by omega
      subst this
      exact pk_le (62 * c) (62 * c) (fun _ => HJ ap m i1 i2 (fun z => ⟨(i3 z).1, fun s t hs ht => (i3 z).2 s t hs ht (by omega)⟩) i4) (fun z => absurd z (by omega)) e62
    | succ d ih =>
      intro k ap m hk i1 i2 i3 i4
      have keep : (k % 62 < c → m = false → ap0 k ≠ 0 ∨ ¬ DF b_leads mt ap0 (k / 62) (k % 62)) → wY_classes_32 post J24 g_productions g_start (nI c) g_states g_conflicts g_ready g_length g_tokens g_stuck g_scanned g_value g_place (d + 1) (b2 m) (nI (k + 1)) b_term b_size b_skipped b_left b_right b_width b_op b_constant b_rank b_grouping b_bTerm b_bSize b_bSkipped b_bLeft b_bWidth b_bOp b_bConstant b_follow b_ends b_first b_last b_none b_set b_leads ap b_state b_to b_look b_begins b_nullable b_act b_built b_leadTo b_text b_fits b_token b_stack b_worth := by
        intro hh
        refine ih (k + 1) ap m (by omega) i1 i2 (fun z => ⟨(i3 z).1, fun s t hs ht hl => ?_⟩) i4
        by_cases e : 62 * s + t = k
        · have e1 : k / 62 = s := by omega
          have e2 : k % 62 = t := by omega
          have := hh (by omega) z
          rw [e1, e2] at this
          rw [e]; exact this
        · exact (i3 z).2 s t hs ht (by omega)
      refine pk_le (62 * c) k (fun z => absurd z (by omega)) (fun _ => ?_) e62
      rw [show (62 : Int32) = nI 62 from rfl, pk_rem (by omega) (by omega) (by omega), pk_div (by omega) (by omega) (by omega)]
      refine ⟨by decide, nm_e ⟨by decide, nm_e (pk_le c (k % 62) (fun z => nm_r (nI_1 k) (keep (fun y => by omega))) (fun z => ⟨vp_in_nI (by omega) (by omega), ?_⟩))⟩⟩
      rw [nI_clamp (show k < 2 ^ 31 by omega)]
      refine br_c (fun a => ?_) (fun a => nm_r (nI_1 k) (keep (fun _ hm => Or.inl (by rw [← (i3 hm).1]; exact a))))
      refine ydf (b_apart := ap) hc hO (show k / 62 < c by omega) z (fun hD => br_f (by decide) ⟨vp_in_nI (by omega) (by omega), ?_⟩) (fun hD => br_t rfl (nm_r (nI_1 k) (keep (fun _ hm => Or.inr (by rw [hmt, (i3 hm).1] at hD; exact hD)))))
      rw [hmt] at hD
      refine nm_e (nm_r (nI_1 k) (ih (k + 1) (upd ap k 1) true (by omega) (fun s t hs ht hne => ?_) (fun j hj => ?_) (fun z => absurd z (by decide)) (fun _ => ?_)))
      · by_cases e : 62 * s + t = k
        · have e1 : k / 62 = s := by omega
          have e2 : k % 62 = t := by omega
          rw [e1, e2] at hD
          intro hEq
          have hEq1 := Nc_e hE hs ht hEq
          rcases hD with y | ⟨l, hl, y⟩
          · have : ∀ k, Eq_ b_leads mt k s t → mt s = mt t := by
              intro k
              induction k with
              | zero => exact id
              | succ k ih => exact fun w => ih w.1
            exact y (this K hEq)
          · obtain ⟨w1, w2⟩ := hEq1.2 l hl
            rcases y with y | ⟨y1, y2, y3⟩
            · exact y w1
            · obtain ⟨q1, _⟩ := dst_c hO hc hs hl y1
              obtain ⟨q3, _⟩ := dst_c hO hc ht hl y2
              exact i1 _ _ q1 q3 y3 (w2 y1)
        · rw [pk_un e] at hne; exact i1 s t hs ht hne
      · by_cases e : j = k
        · subst e; rw [pk_us]; decide
        · rw [pk_un e]; exact i2 j hj
      · cases m with
        | false => exact ⟨k, by omega, by rw [← (i3 rfl).1]; exact a, by rw [pk_us]; decide⟩
        | true =>
          obtain ⟨j, j1, j2, j3⟩ := i4 rfl
          refine ⟨j, j1, j2, ?_⟩
          by_cases e : j = k
          · subst e; rw [pk_us]; decide
          · rw [pk_un e]; exact j3
  have done : ∀ (ap : Nat → Int32), (∀ s t, s < c → t < c → ap (62 * s + t) ≠ 0 → ¬ Eq_ b_leads mt K s t) → (∀ s t, s < c → t < c → ap (62 * s + t) ≠ 0 ∨ ¬ DF b_leads mt ap s t) → ∀ n, wY_classes_24 post g_productions g_start (nI c) g_states g_conflicts g_ready g_length g_tokens g_stuck g_scanned g_value g_place (n + 1) 0 b_term b_size b_skipped b_left b_right b_width b_op b_constant b_rank b_grouping b_bTerm b_bSize b_bSkipped b_bLeft b_bWidth b_bOp b_bConstant b_follow b_ends b_first b_last b_none b_set b_leads ap b_state b_to b_look b_begins b_nullable b_act b_built b_leadTo b_text b_fits b_token b_stack b_worth := by
    intro ap i1 i2 n
    have hnd : ∀ k s t, s < c → t < c → ap (62 * s + t) = 0 → Eq_ b_leads mt k s t := by
      intro k
      induction k with
      | zero =>
        intro s t hs ht h0
        rcases i2 s t hs ht with z | z
        · exact absurd h0 z
        · exact Classical.byContradiction fun y => z (Or.inl y)
      | succ k ih =>
        intro s t hs ht h0
        refine ⟨ih s t hs ht h0, fun l hl => ?_⟩
        rcases i2 s t hs ht with z | z
        · exact absurd h0 z
        · have hi : b_leads (4 * s + l) = -1 ↔ b_leads (4 * t + l) = -1 := Classical.byContradiction fun y => z (Or.inr ⟨l, hl, Or.inl y⟩)
          refine ⟨hi, fun hn => ?_⟩
          have hn' : b_leads (4 * t + l) ≠ -1 := fun y => hn (hi.mpr y)
          obtain ⟨q1, _⟩ := dst_c hO hc hs hl hn
          obtain ⟨q3, _⟩ := dst_c hO hc ht hl hn'
          exact ih _ _ q1 q3 (Classical.byContradiction fun y => z (Or.inr ⟨l, hl, Or.inr ⟨hn, hn', y⟩⟩))
    refine br_t rfl (br_c (fun z => ⟨1, ?_⟩) (fun z => ⟨c + 1, ?_⟩))
    · have c1 := hs0.mp z
      have h' := H ap
      rw [if_pos c1] at h'
      exact br_t (by rw [c1]; decide) h'
    · exact count ap (fun s t hs ht => ⟨i1 s t hs ht, fun y w => y (hnd K s t hs ht w)⟩) (fun y => z (hs0.mpr y)) c 0 (by omega)
  have rounds : ∀ d (ap : Nat → Int32), 3844 - cb (fun k => !(ap k == 0)) 3844 ≤ d → (∀ s t, s < c → t < c → ap (62 * s + t) ≠ 0 → ¬ Eq_ b_leads mt K s t) → wY_classes_24 post g_productions g_start (nI c) g_states g_conflicts g_ready g_length g_tokens g_stuck g_scanned g_value g_place (d + 2) 1 b_term b_size b_skipped b_left b_right b_width b_op b_constant b_rank b_grouping b_bTerm b_bSize b_bSkipped b_bLeft b_bWidth b_bOp b_bConstant b_follow b_ends b_first b_last b_none b_set b_leads ap b_state b_to b_look b_begins b_nullable b_act b_built b_leadTo b_text b_fits b_token b_stack b_worth := by
    intro d
    induction d with
    | zero =>
      intro ap hd i1
      refine br_f (by decide) ⟨62 * c + 1, pass ap _ i1 (fun ap' m j1 j2 j3 j4 => ?_) (62 * c) 0 ap false (by omega) i1 (fun _ h => h) (fun _ => ⟨rfl, fun s t _ _ h => absurd h (Nat.not_lt_zero _)⟩) (fun z => absurd z (by decide))⟩
      cases m with
      | false =>
        obtain ⟨e, f⟩ := j3 rfl
        subst e
        exact done _ j1 f 0
      | true =>
        exfalso
        obtain ⟨j, k1, k2, k3⟩ := j4 rfl
        have := cb_s (f := fun k => !(ap k == 0)) (g := fun k => !(ap' k == 0)) (fun k hk => by simp at hk ⊢; exact j2 k hk) (k := j) (by simp [k2]) (by simp; exact k3) 3844 k1
        have := cb_le (fun k => !(ap' k == 0)) 3844
        omega
    | succ d ih =>
      intro ap hd i1
      refine br_f (by decide) ⟨62 * c + 1, pass ap _ i1 (fun ap' m j1 j2 j3 j4 => ?_) (62 * c) 0 ap false (by omega) i1 (fun _ h => h) (fun _ => ⟨rfl, fun s t _ _ h => absurd h (Nat.not_lt_zero _)⟩) (fun z => absurd z (by decide))⟩
      cases m with
      | false =>
        obtain ⟨e, f⟩ := j3 rfl
        subst e
        exact done _ j1 f (d + 1)
      | true =>
        obtain ⟨j, k1, k2, k3⟩ := j4 rfl
        have h5 := cb_s (f := fun k => !(ap k == 0)) (g := fun k => !(ap' k == 0)) (fun k hk => by simp at hk ⊢; exact j2 k hk) (k := j) (by simp [k2]) (by simp; exact k3) 3844 k1
        have h6 := cb_le (fun k => !(ap' k == 0)) 3844
        exact ih ap' (by omega) j1
  have clear : ∀ d k (ap : Nat → Int32), k + d = 3844 → (∀ j, j < k → ap j = 0) → wY_classes_2 post g_productions g_start (nI c) g_states g_conflicts g_ready g_length g_tokens g_stuck g_scanned g_value g_place (d + 1) (nI k) b_term b_size b_skipped b_left b_right b_width b_op b_constant b_rank b_grouping b_bTerm b_bSize b_bSkipped b_bLeft b_bWidth b_bOp b_bConstant b_follow b_ends b_first b_last b_none b_set b_leads ap b_state b_to b_look b_begins b_nullable b_act b_built b_leadTo b_text b_fits b_token b_stack b_worth := by
    intro d
    induction d with
    | zero =>
      intro k ap hk h
      have : k = 3844 := by omega
      subst this
      refine pk_le 3844 3844 (fun _ => ⟨3844 + 2, rounds 3844 ap (by omega) (fun s t hs ht hne => absurd (h _ (by omega)) hne)⟩) (fun z => absurd z (by omega))
    | succ d ih =>
      intro k ap hk h
      refine pk_le 3844 k (fun z => absurd z (by omega)) (fun _ => ⟨vp_in_nI (by omega) (by omega), ?_⟩)
      rw [nI_clamp (show k < 2 ^ 31 by omega)]
      refine nm_e (nm_r (nI_1 k) (ih (k + 1) _ (by omega) (fun j hj => ?_)))
      by_cases e : j = k
      · subst e; exact pk_us
      · rw [pk_un e]; exact h j (by omega)
  exact ⟨3845, clear 3844 0 b_apart (by omega) (fun j hj => absurd hj (Nat.not_lt_zero _))⟩
end
end
section
/-! well formed rules; what is kept -/
theorem wf_st {d t : Nat} (h : tk t ≤ d) : nI d + (1 - nI (tk t)) = nI (d + 1 - tk t) := by
  have h2 := tk_2 t
  generalize tk t = k at h h2
  have : k = 0 ∨ k = 1 ∨ k = 2 := by omega
  rcases this with rfl | rfl | rfl
  · rw [show (1 : Int32) - nI 0 = 1 from by decide, nI_1]; rfl
  · rw [show (1 : Int32) - nI 1 = nI 0 from by decide, nI_add]; rfl
  · obtain ⟨e, rfl⟩ : ∃ e, d = e + 1 := ⟨d - 1, by omega⟩
    rw [show (1 : Int32) - nI 2 = -1 from by decide, pk_m1]; congr 1
section
variable {f_productionCount f_textLength f_anythingBuilt f_tokenCount f_parseValue f_parsePlace : Int32} {a_ruleTerms a_ruleLengths a_skips a_grammar a_ranks a_groupings a_text a_heads a_tails a_empties a_placeLetters a_followers a_ruleEnds : Nat → Int32} {a_sets : Nat → Int64} {a_steps a_classes a_finerClasses : Nat → Int32} {a_states : Nat → Int64} {a_moves a_begins a_lookaheads a_builtCounts a_builtSteps a_builtMatches a_builtSkips a_builtGrammar a_builtMoves a_builtActions a_tokenRules a_tokenBegins a_tokenEnds a_stackStates a_stackValues : Nat → Int32}
theorem xwl {post : Int32 → Prop} {r : Nat} (hr : r < 4) (hru : ru_ok a_ruleTerms a_ruleLengths) (h0 : 0 < nv a_ruleLengths r) (H1 : wf_ (nv a_ruleTerms) (8 * r) (nv a_ruleLengths r) → post 1) (H0 : ¬ wf_ (nv a_ruleTerms) (8 * r) (nv a_ruleLengths r) → post 0) : wpX_isWellFormed post (f_productionCount, f_textLength, f_anythingBuilt, f_tokenCount, f_parseValue, f_parsePlace, a_ruleTerms, a_ruleLengths, a_skips, a_grammar, a_ranks, a_groupings, a_text, a_heads, a_tails, a_empties, a_placeLetters, a_followers, a_ruleEnds, a_sets, a_steps, a_classes, a_finerClasses, a_states, a_moves, a_begins, a_lookaheads, a_builtCounts, a_builtSteps, a_builtMatches, a_builtSkips, a_builtGrammar, a_builtMoves, a_builtActions, a_tokenRules, a_tokenBegins, a_tokenEnds, a_stackStates, a_stackValues) (nI r) := by
  obtain ⟨z, hz, ez⟩ := hru.2 r
  have ezn : nv a_ruleLengths r = z := by unfold nv; rw [ez]; exact nI_clamp (by omega)
  rw [ezn] at H1 H0 h0
  have c1 : (nI r).toNatClampNeg = r := nI_clamp (by omega)
  have ir : vp_in (nI r) 4 := vp_in_nI hr (by omega)
  have loop : ∀ d k, k + d = z → (∀ j, j < k → tk (nv a_ruleTerms (8 * r + j)) ≤ dp (nv a_ruleTerms) (8 * r) j) → wX_isWellFormed_4 post (nI r) f_productionCount f_textLength f_anythingBuilt f_tokenCount f_parseValue f_parsePlace a_ruleTerms a_ruleLengths a_skips a_grammar a_ranks a_groupings a_text a_heads a_tails a_empties a_placeLetters a_followers a_ruleEnds a_sets a_steps a_classes a_finerClasses a_states a_moves a_begins a_lookaheads a_builtCounts a_builtSteps a_builtMatches a_builtSkips a_builtGrammar a_builtMoves a_builtActions a_tokenRules a_tokenBegins a_tokenEnds a_stackStates a_stackValues (d + 1) (nI (dp (nv a_ruleTerms) (8 * r) k)) (nI k) := by
    intro d
    induction d with
    | zero =>
      intro k hk h
      have : k = z := by omega
      subst this
      have hd := dp_le (tm := nv a_ruleTerms) (b := 8 * r) k
      have w : wX_isWellFormed_78 post (nI (dp (nv a_ruleTerms) (8 * r) k)) f_productionCount f_textLength f_anythingBuilt f_tokenCount f_parseValue f_parsePlace a_ruleTerms a_ruleLengths a_skips a_grammar a_ranks a_groupings a_text a_heads a_tails a_empties a_placeLetters a_followers a_ruleEnds a_sets a_steps a_classes a_finerClasses a_states a_moves a_begins a_lookaheads a_builtCounts a_builtSteps a_builtMatches a_builtSkips a_builtGrammar a_builtMoves a_builtActions a_tokenRules a_tokenBegins a_tokenEnds a_stackStates a_stackValues := pk_eq (dp (nv a_ruleTerms) (8 * r) k) 1 (fun e => H1 ⟨h, Or.inr e⟩) (fun e => H0 fun z => z.2.elim (fun y => by omega) e)
      refine pk_le 8 k (fun _ => w) (fun _ => ⟨ir, ?_⟩)
      rw [c1, ez]
      exact pk_le k k (fun _ => w) (fun z => absurd z (by omega))
    | succ d ih =>
      intro k hk h
      obtain ⟨t, ht, et⟩ := hru.1 (8 * r + k)
      have etn : nv a_ruleTerms (8 * r + k) = t := by unfold nv; rw [et]; exact nI_clamp (by omega)
      have hd := dp_le (tm := nv a_ruleTerms) (b := 8 * r) k
      have htk := tk_2 t
      have ih' := ih (k + 1) (by omega)
      have hdp : dp (nv a_ruleTerms) (8 * r) (k + 1) = dp (nv a_ruleTerms) (8 * r) k + 1 - tk t := by
        show _ + 1 - tk (nv a_ruleTerms (8 * r + k)) = _
        rw [etn]
      rw [hdp] at ih'
      have w55 : ∀ x : Int32, x = nI (tk t) → wX_isWellFormed_55 post (wX_isWellFormed_4 post (nI r) f_productionCount f_textLength f_anythingBuilt f_tokenCount f_parseValue f_parsePlace a_ruleTerms a_ruleLengths a_skips a_grammar a_ranks a_groupings a_text a_heads a_tails a_empties a_placeLetters a_followers a_ruleEnds a_sets a_steps a_classes a_finerClasses a_states a_moves a_begins a_lookaheads a_builtCounts a_builtSteps a_builtMatches a_builtSkips a_builtGrammar a_builtMoves a_builtActions a_tokenRules a_tokenBegins a_tokenEnds a_stackStates a_stackValues (d + 1)) (nI r) (nI (dp (nv a_ruleTerms) (8 * r) k)) (nI k) x f_productionCount f_textLength f_anythingBuilt f_tokenCount f_parseValue f_parsePlace a_ruleTerms a_ruleLengths a_skips a_grammar a_ranks a_groupings a_text a_heads a_tails a_empties a_placeLetters a_followers a_ruleEnds a_sets a_steps a_classes a_finerClasses a_states a_moves a_begins a_lookaheads a_builtCounts a_builtSteps a_builtMatches a_builtSkips a_builtGrammar a_builtMoves a_builtActions a_tokenRules a_tokenBegins a_tokenEnds a_stackStates a_stackValues := by
        intro x hx
        subst hx
        refine pk_le (tk t) (dp (nv a_ruleTerms) (8 * r) k) (fun c => nm_r (wf_st c) (nm_r (nI_1 k) (ih' (fun j hj => ?_)))) (fun c => H0 fun z => ?_)
        · by_cases e : j = k
          · subst e; rw [etn]; exact c
          · exact h j (by omega)
        · have := z.1 k (by omega)
          rw [etn] at this; omega
      have hcc := tk_c t
      refine pk_le 8 k (fun z => absurd z (by omega)) (fun _ => ⟨ir, ?_⟩)
      rw [c1, ez]
      refine pk_le z k (fun z => absurd z (by omega)) (fun _ => ?_)
      rw [show nI r * 8 + nI k = nI (8 * r + k) from by rw [show (8 : Int32) = nI 8 from rfl, pk_mul, nI_add]; congr 1; omega, nI_clamp (show 8 * r + k < 2 ^ 31 by omega), et]
      refine ⟨vp_in_nI (by omega) (by omega), nm_e (pk_lt 4 t (fun c => pk_lt 6 t (fun c2 => w55 _ ?_) (fun c2 => w55 _ ?_)) (fun c => w55 _ ?_))⟩
      · rw [hcc.2.2 (by omega)]; rfl
      · rw [hcc.2.1 (by omega)]; rfl
      · rw [hcc.1 (by omega)]; rfl
  exact ⟨z + 1, loop z 0 (by omega) (fun j hj => absurd hj (Nat.not_lt_zero _))⟩
theorem xfit {post : Int32 → Prop} (hru : ru_ok a_ruleTerms a_ruleLengths) (H1 : (∀ r, r < 4 → wf_ (nv a_ruleTerms) (8 * r) (nv a_ruleLengths r)) → post 1) (H0 : (¬ ∀ r, r < 4 → wf_ (nv a_ruleTerms) (8 * r) (nv a_ruleLengths r)) → post 0) : wpX_rulesAreFit post (f_productionCount, f_textLength, f_anythingBuilt, f_tokenCount, f_parseValue, f_parsePlace, a_ruleTerms, a_ruleLengths, a_skips, a_grammar, a_ranks, a_groupings, a_text, a_heads, a_tails, a_empties, a_placeLetters, a_followers, a_ruleEnds, a_sets, a_steps, a_classes, a_finerClasses, a_states, a_moves, a_begins, a_lookaheads, a_builtCounts, a_builtSteps, a_builtMatches, a_builtSkips, a_builtGrammar, a_builtMoves, a_builtActions, a_tokenRules, a_tokenBegins, a_tokenEnds, a_stackStates, a_stackValues) := by
  have loop : ∀ d r, r + d = 4 → (∀ q, q < r → wf_ (nv a_ruleTerms) (8 * q) (nv a_ruleLengths q)) → wX_rulesAreFit_2 post f_productionCount f_textLength f_anythingBuilt f_tokenCount f_parseValue f_parsePlace a_ruleTerms a_ruleLengths a_skips a_grammar a_ranks a_groupings a_text a_heads a_tails a_empties a_placeLetters a_followers a_ruleEnds a_sets a_steps a_classes a_finerClasses a_states a_moves a_begins a_lookaheads a_builtCounts a_builtSteps a_builtMatches a_builtSkips a_builtGrammar a_builtMoves a_builtActions a_tokenRules a_tokenBegins a_tokenEnds a_stackStates a_stackValues (d + 1) (nI r) := by
    intro d
    induction d with
    | zero =>
      intro r hr h
      have : r = 4 := by omega
      subst this
      exact pk_le 4 4 (fun _ => H1 h) (fun z => absurd z (by omega))
    | succ d ih =>
      intro r hr h
      obtain ⟨z, hz, ez⟩ := hru.2 r
      have ezn : nv a_ruleLengths r = z := by unfold nv; rw [ez]; exact nI_clamp (by omega)
      have next : wf_ (nv a_ruleTerms) (8 * r) (nv a_ruleLengths r) → wX_rulesAreFit_2 post f_productionCount f_textLength f_anythingBuilt f_tokenCount f_parseValue f_parsePlace a_ruleTerms a_ruleLengths a_skips a_grammar a_ranks a_groupings a_text a_heads a_tails a_empties a_placeLetters a_followers a_ruleEnds a_sets a_steps a_classes a_finerClasses a_states a_moves a_begins a_lookaheads a_builtCounts a_builtSteps a_builtMatches a_builtSkips a_builtGrammar a_builtMoves a_builtActions a_tokenRules a_tokenBegins a_tokenEnds a_stackStates a_stackValues (d + 1) (nI (r + 1)) := by
        intro hh
        refine ih (r + 1) (by omega) (fun q hq => ?_)
        by_cases e : q = r
        · subst e; exact hh
        · exact h q (by omega)
      refine pk_le 4 r (fun z => absurd z (by omega)) (fun _ => ⟨vp_in_nI (by omega) (by omega), ?_⟩)
      rw [nI_clamp (show r < 2 ^ 31 by omega), ez]
      refine pk_le z 0 (fun c => nm_r (nI_1 r) (next ?_)) (fun c => xwl (by omega) hru (by omega) (fun w => br_f (by decide) (nm_r (nI_1 r) (next w))) (fun w => br_t rfl (H0 fun y => w (y r (by omega)))))
      rw [ezn, show z = 0 by omega]
      exact ⟨fun j hj => absurd hj (Nat.not_lt_zero _), Or.inl rfl⟩
  exact ⟨5, loop 4 0 (by omega) (fun q hq => absurd hq (Nat.not_lt_zero _))⟩
theorem x_keepS {post : SX → Prop} {c : Nat} {en : Nat → Int64} {w : Nat → Int64} (hc : c ≤ 61) (hi : ∀ s, s < c → ∀ r, r < 4 → (((a_ruleEnds r).toInt64 &&& a_sets s) = 0 ↔ (w s &&& en r) = 0))
    (H : ∀ bm bst bsk : Nat → Int32, (∀ s, s < c → bm s = mtc en (w s) 4 0) → (∀ j, j < 244 → bst j = a_steps j) → (∀ r, r < 4 → bsk r = vp_nar .boolean (a_skips r)) → post (f_productionCount, f_textLength, f_anythingBuilt, f_tokenCount, f_parseValue, f_parsePlace, a_ruleTerms, a_ruleLengths, a_skips, a_grammar, a_ranks, a_groupings, a_text, a_heads, a_tails, a_empties, a_placeLetters, a_followers, a_ruleEnds, a_sets, a_steps, a_classes, a_finerClasses, a_states, a_moves, a_begins, a_lookaheads, a_builtCounts, bst, bm, bsk, a_builtGrammar, a_builtMoves, a_builtActions, a_tokenRules, a_tokenBegins, a_tokenEnds, a_stackStates, a_stackValues)) : wpX_keepScanner post (f_productionCount, f_textLength, f_anythingBuilt, f_tokenCount, f_parseValue, f_parsePlace, a_ruleTerms, a_ruleLengths, a_skips, a_grammar, a_ranks, a_groupings, a_text, a_heads, a_tails, a_empties, a_placeLetters, a_followers, a_ruleEnds, a_sets, a_steps, a_classes, a_finerClasses, a_states, a_moves, a_begins, a_lookaheads, a_builtCounts, a_builtSteps, a_builtMatches, a_builtSkips, a_builtGrammar, a_builtMoves, a_builtActions, a_tokenRules, a_tokenBegins, a_tokenEnds, a_stackStates, a_stackValues) (nI c) := by
  have l3 : ∀ bm bst : Nat → Int32, (∀ s, s < c → bm s = mtc en (w s) 4 0) → (∀ j, j < 244 → bst j = a_steps j) → ∀ d r (bsk : Nat → Int32), r + d = 4 → (∀ q, q < r → bsk q = vp_nar .boolean (a_skips q)) → wX_keepScanner_64 post f_productionCount f_textLength f_anythingBuilt f_tokenCount f_parseValue f_parsePlace (d + 1) (nI r) a_ruleTerms a_ruleLengths a_skips a_grammar a_ranks a_groupings a_text a_heads a_tails a_empties a_placeLetters a_followers a_ruleEnds a_sets a_steps a_classes a_finerClasses a_states a_moves a_begins a_lookaheads a_builtCounts bst bm bsk a_builtGrammar a_builtMoves a_builtActions a_tokenRules a_tokenBegins a_tokenEnds a_stackStates a_stackValues := by
    intro bm bst hbm hbst d
    induction d with
    | zero =>
      intro r bsk hr h
      have : r = 4 := by omega
      subst this
      exact pk_le 4 4 (fun _ => H bm bst bsk hbm hbst h) (fun z => absurd z (by omega))
    | succ d ih =>
      intro r bsk hr h
      have ir : vp_in (nI r) 4 := vp_in_nI (by omega) (by omega)
      refine pk_le 4 r (fun z => absurd z (by omega)) (fun _ => ⟨ir, ir, ?_⟩)
      rw [nI_clamp (show r < 2 ^ 31 by omega)]
      refine nm_e (nm_r (nI_1 r) (ih (r + 1) _ (by omega) (fun q hq => ?_)))
      by_cases e : q = r
      · subst e; exact pk_us
      · rw [pk_un e]; exact h q (by omega)
  have l2 : ∀ bm : Nat → Int32, (∀ s, s < c → bm s = mtc en (w s) 4 0) → ∀ d j (bst : Nat → Int32), j + d = 244 → (∀ q, q < j → bst q = a_steps q) → wX_keepScanner_37 post f_productionCount f_textLength f_anythingBuilt f_tokenCount f_parseValue f_parsePlace (d + 1) (nI j) a_ruleTerms a_ruleLengths a_skips a_grammar a_ranks a_groupings a_text a_heads a_tails a_empties a_placeLetters a_followers a_ruleEnds a_sets a_steps a_classes a_finerClasses a_states a_moves a_begins a_lookaheads a_builtCounts bst bm a_builtSkips a_builtGrammar a_builtMoves a_builtActions a_tokenRules a_tokenBegins a_tokenEnds a_stackStates a_stackValues := by
    intro bm hbm d
    induction d with
    | zero =>
      intro j bst hj h
      have : j = 244 := by omega
      subst this
      exact pk_le 244 244 (fun _ => ⟨5, l3 bm bst hbm h 4 0 a_builtSkips (by omega) (fun q hq => absurd hq (Nat.not_lt_zero _))⟩) (fun z => absurd z (by omega))
    | succ d ih =>
      intro j bst hj h
      have ij : vp_in (nI j) 244 := vp_in_nI (by omega) (by omega)
      refine pk_le 244 j (fun z => absurd z (by omega)) (fun _ => ⟨ij, ij, ?_⟩)
      rw [nI_clamp (show j < 2 ^ 31 by omega)]
      refine nm_e (nm_r (nI_1 j) (ih (j + 1) _ (by omega) (fun q hq => ?_)))
      by_cases e : q = j
      · subst e; exact pk_us
      · rw [pk_un e]; exact h q (by omega)
  have l1 : ∀ d s (bm : Nat → Int32), s + d = c → (∀ q, q < s → bm q = mtc en (w q) 4 0) → wX_keepScanner_2 post (nI c) f_productionCount f_textLength f_anythingBuilt f_tokenCount f_parseValue f_parsePlace (d + 1) (nI s) a_ruleTerms a_ruleLengths a_skips a_grammar a_ranks a_groupings a_text a_heads a_tails a_empties a_placeLetters a_followers a_ruleEnds a_sets a_steps a_classes a_finerClasses a_states a_moves a_begins a_lookaheads a_builtCounts a_builtSteps bm a_builtSkips a_builtGrammar a_builtMoves a_builtActions a_tokenRules a_tokenBegins a_tokenEnds a_stackStates a_stackValues := by
    intro d
    induction d with
    | zero =>
      intro s bm hs h
      have : s = c := by omega
      subst this
      have h' : ∃ n37 : Nat, wX_keepScanner_37 post f_productionCount f_textLength f_anythingBuilt f_tokenCount f_parseValue f_parsePlace n37 0 a_ruleTerms a_ruleLengths a_skips a_grammar a_ranks a_groupings a_text a_heads a_tails a_empties a_placeLetters a_followers a_ruleEnds a_sets a_steps a_classes a_finerClasses a_states a_moves a_begins a_lookaheads a_builtCounts a_builtSteps bm a_builtSkips a_builtGrammar a_builtMoves a_builtActions a_tokenRules a_tokenBegins a_tokenEnds a_stackStates a_stackValues := ⟨245, l2 bm h 244 0 a_builtSteps (by omega) (fun q hq => absurd hq (Nat.not_lt_zero _))⟩
      exact pk_le 61 s (fun _ => h') (fun _ => pk_le s s (fun _ => h') (fun z => absurd z (by omega)))
    | succ d ih =>
      intro s bm hs h
      have is : vp_in (nI s) 61 := vp_in_nI (by omega) (by omega)
      refine pk_le 61 s (fun z => absurd z (by omega)) (fun _ => pk_le c s (fun z => absurd z (by omega)) (fun _ => ⟨is, ?_⟩))
      rw [nI_clamp (show s < 2 ^ 31 by omega)]
      refine xlr (hi s (by omega)) ⟨is, nm_e (nm_r (nI_1 s) (ih (s + 1) _ (by omega) (fun q hq => ?_)))⟩
      by_cases e : q = s
      · subst e; exact pk_us
      · rw [pk_un e]; exact h q (by omega)
  exact ⟨c + 1, l1 c 0 a_builtMatches (by omega) (fun q hq => absurd hq (Nat.not_lt_zero _))⟩
theorem x_keepP {post : SX → Prop} (H : ∀ bm bg : Nat → Int32, (∀ j, j < 520 → bm j = a_moves j) → (∀ j, j < 63 → bg j = a_grammar j) → post (f_productionCount, f_textLength, f_anythingBuilt, f_tokenCount, f_parseValue, f_parsePlace, a_ruleTerms, a_ruleLengths, a_skips, a_grammar, a_ranks, a_groupings, a_text, a_heads, a_tails, a_empties, a_placeLetters, a_followers, a_ruleEnds, a_sets, a_steps, a_classes, a_finerClasses, a_states, a_moves, a_begins, a_lookaheads, a_builtCounts, a_builtSteps, a_builtMatches, a_builtSkips, bg, bm, a_builtActions, a_tokenRules, a_tokenBegins, a_tokenEnds, a_stackStates, a_stackValues)) : wpX_keepParser post (f_productionCount, f_textLength, f_anythingBuilt, f_tokenCount, f_parseValue, f_parsePlace, a_ruleTerms, a_ruleLengths, a_skips, a_grammar, a_ranks, a_groupings, a_text, a_heads, a_tails, a_empties, a_placeLetters, a_followers, a_ruleEnds, a_sets, a_steps, a_classes, a_finerClasses, a_states, a_moves, a_begins, a_lookaheads, a_builtCounts, a_builtSteps, a_builtMatches, a_builtSkips, a_builtGrammar, a_builtMoves, a_builtActions, a_tokenRules, a_tokenBegins, a_tokenEnds, a_stackStates, a_stackValues) := by
  have l2 : ∀ bm : Nat → Int32, (∀ j, j < 520 → bm j = a_moves j) → ∀ d j (bg : Nat → Int32), j + d = 63 → (∀ q, q < j → bg q = a_grammar q) → wX_keepParser_29 post f_productionCount f_textLength f_anythingBuilt f_tokenCount f_parseValue f_parsePlace (d + 1) (nI j) a_ruleTerms a_ruleLengths a_skips a_grammar a_ranks a_groupings a_text a_heads a_tails a_empties a_placeLetters a_followers a_ruleEnds a_sets a_steps a_classes a_finerClasses a_states a_moves a_begins a_lookaheads a_builtCounts a_builtSteps a_builtMatches a_builtSkips bg bm a_builtActions a_tokenRules a_tokenBegins a_tokenEnds a_stackStates a_stackValues := by
    intro bm hbm d
    induction d with
    | zero =>
      intro j bg hj h
      have : j = 63 := by omega
      subst this
      exact pk_le 63 63 (fun _ => H bm bg hbm h) (fun z => absurd z (by omega))
    | succ d ih =>
      intro j bg hj h
      have ij : vp_in (nI j) 63 := vp_in_nI (by omega) (by omega)
      refine pk_le 63 j (fun z => absurd z (by omega)) (fun _ => ⟨ij, ij, ?_⟩)
      rw [nI_clamp (show j < 2 ^ 31 by omega)]
      refine nm_e (nm_r (nI_1 j) (ih (j + 1) _ (by omega) (fun q hq => ?_)))
      by_cases e : q = j
      · subst e; exact pk_us
      · rw [pk_un e]; exact h q (by omega)
  have l1 : ∀ d j (bm : Nat → Int32), j + d = 520 → (∀ q, q < j → bm q = a_moves q) → wX_keepParser_2 post f_productionCount f_textLength f_anythingBuilt f_tokenCount f_parseValue f_parsePlace (d + 1) (nI j) a_ruleTerms a_ruleLengths a_skips a_grammar a_ranks a_groupings a_text a_heads a_tails a_empties a_placeLetters a_followers a_ruleEnds a_sets a_steps a_classes a_finerClasses a_states a_moves a_begins a_lookaheads a_builtCounts a_builtSteps a_builtMatches a_builtSkips a_builtGrammar bm a_builtActions a_tokenRules a_tokenBegins a_tokenEnds a_stackStates a_stackValues := by
    intro d
    induction d with
    | zero =>
      intro j bm hj h
      have : j = 520 := by omega
      subst this
      exact pk_le 520 520 (fun _ => ⟨64, l2 bm h 63 0 a_builtGrammar (by omega) (fun q hq => absurd hq (Nat.not_lt_zero _))⟩) (fun z => absurd z (by omega))
    | succ d ih =>
      intro j bm hj h
      have ij : vp_in (nI j) 520 := vp_in_nI (by omega) (by omega)
      refine pk_le 520 j (fun z => absurd z (by omega)) (fun _ => ⟨ij, ij, ?_⟩)
      rw [nI_clamp (show j < 2 ^ 31 by omega)]
      refine nm_e (nm_r (nI_1 j) (ih (j + 1) _ (by omega) (fun q hq => ?_)))
      by_cases e : q = j
      · subst e; exact pk_us
      · rw [pk_un e]; exact h q (by omega)
  exact ⟨521, l1 520 0 a_builtMoves (by omega) (fun q hq => absurd hq (Nat.not_lt_zero _))⟩
end
section
variable {g_productions : Int32} {g_start : Int64} {g_sets g_states g_conflicts g_ready g_length g_tokens g_stuck g_scanned g_value g_place : Int32} {b_term b_size b_skipped b_left b_right b_width b_op b_constant b_rank b_grouping b_bTerm b_bSize b_bSkipped b_bLeft b_bWidth b_bOp b_bConstant : Nat → Int32} {b_follow b_ends b_first b_last : Nat → Int64} {b_none : Nat → Int32} {b_set : Nat → Int64} {b_leads b_apart : Nat → Int32} {b_state : Nat → Int64} {b_to b_look b_begins b_nullable b_act b_built b_leadTo b_text b_fits b_token b_stack b_worth : Nat → Int32}
theorem ywl {post : Int32 → Prop} {r : Nat} (hr : r < 4) (hru : ru_ok b_term b_size) (H1 : wf_ (nv b_term) (8 * r) (nv b_size r) → post 1) (H0 : ¬ wf_ (nv b_term) (8 * r) (nv b_size r) → post 0) : wpY_wellFormed post (g_productions, g_start, g_sets, g_states, g_conflicts, g_ready, g_length, g_tokens, g_stuck, g_scanned, g_value, g_place, b_term, b_size, b_skipped, b_left, b_right, b_width, b_op, b_constant, b_rank, b_grouping, b_bTerm, b_bSize, b_bSkipped, b_bLeft, b_bWidth, b_bOp, b_bConstant, b_follow, b_ends, b_first, b_last, b_none, b_set, b_leads, b_apart, b_state, b_to, b_look, b_begins, b_nullable, b_act, b_built, b_leadTo, b_text, b_fits, b_token, b_stack, b_worth) (nI r) := by
  obtain ⟨z, hz, ez⟩ := hru.2 r
  have ezn : nv b_size r = z := by unfold nv; rw [ez]; exact nI_clamp (by omega)
  rw [ezn] at H1 H0
  have c1 : (nI r).toNatClampNeg = r := nI_clamp (by omega)
  have ir : vp_in (nI r) 4 := vp_in_nI hr (by omega)
  have e8 : 8 * nI r + nI z = nI (8 * r + z) := by rw [show (8 : Int32) = nI 8 from rfl, pk_mul, nI_add]
  have loop : ∀ d k, k + d = z → (∀ j, j < k → tk (nv b_term (8 * r + j)) ≤ dp (nv b_term) (8 * r) j) → wY_wellFormed_7 post (nI r) g_productions g_start g_sets g_states g_conflicts g_ready g_length g_tokens g_stuck g_scanned g_value g_place b_term b_size b_skipped b_left b_right b_width b_op b_constant b_rank b_grouping b_bTerm b_bSize b_bSkipped b_bLeft b_bWidth b_bOp b_bConstant b_follow b_ends b_first b_last b_none b_set b_leads b_apart b_state b_to b_look b_begins b_nullable b_act b_built b_leadTo b_text b_fits b_token b_stack b_worth (d + 1) (nI (dp (nv b_term) (8 * r) k)) (nI (8 * r + k)) := by
    intro d
    induction d with
    | zero =>
      intro k hk h
      have : k = z := by omega
      subst this
      have hd := dp_le (tm := nv b_term) (b := 8 * r) k
      refine ⟨ir, ?_⟩
      rw [c1, ez, e8]
      refine pk_le (8 * r + k) (8 * r + k) (fun _ => pk_eq (dp (nv b_term) (8 * r) k) 1 (fun e => H1 ⟨h, Or.inr e⟩) (fun e => ⟨ir, pk_eq k 0 (fun e0 => H1 ⟨h, Or.inl e0⟩) (fun e0 => H0 fun z => z.2.elim e0 e)⟩)) (fun z => absurd z (by omega))
    | succ d ih =>
      intro k hk h
      obtain ⟨t, ht, et⟩ := hru.1 (8 * r + k)
      have etn : nv b_term (8 * r + k) = t := by unfold nv; rw [et]; exact nI_clamp (by omega)
      have hd := dp_le (tm := nv b_term) (b := 8 * r) k
      have htk := tk_2 t
      have ih' := ih (k + 1) (by omega)
      have hdp : dp (nv b_term) (8 * r) (k + 1) = dp (nv b_term) (8 * r) k + 1 - tk t := by
        show _ + 1 - tk (nv b_term (8 * r + k)) = _
        rw [etn]
      rw [hdp, ← Nat.add_assoc] at ih'
      refine ⟨ir, ?_⟩
      rw [c1, ez, e8]
      refine pk_le (8 * r + z) (8 * r + k) (fun z => absurd z (by omega)) (fun _ => ⟨vp_in_nI (by omega) (by omega), ?_⟩)
      rw [nI_clamp (show 8 * r + k < 2 ^ 31 by omega), et]
      refine yta_ ht (pk_le (tk t) (dp (nv b_term) (8 * r) k) (fun c => nm_r (wf_st c) (nm_r (nI_1 _) (ih' (fun j hj => ?_)))) (fun c => H0 fun z => ?_))
      · by_cases e : j = k
        · subst e; rw [etn]; exact c
        · exact h j (by omega)
      · have := z.1 k (by omega)
        rw [etn] at this; omega
  exact nm_r (e' := nI (8 * r + 0)) (by rw [show (8 : Int32) = nI 8 from rfl, pk_mul]; rfl) ⟨z + 1, loop z 0 (by omega) (fun j hj => absurd hj (Nat.not_lt_zero _))⟩
/-- the reference's last copies -/
theorem y_tail {post : Int32 → SY → Prop} (H : ∀ bT bS bSk bL bW bO bC : Nat → Int32, (∀ k, (k < 32 → bT k = b_term k) ∧ (32 ≤ k → bT k = b_bTerm k)) → (∀ r, (r < 4 → bS r = b_size r) ∧ (4 ≤ r → bS r = b_bSize r)) → (∀ r, r < 4 → bSk r = vp_nar .boolean (b_skipped r)) → (∀ p, p < 8 → bL p = b_left p ∧ bW p = b_width p ∧ bO p = b_op p ∧ bC p = b_constant p) →
      post 0 (g_productions, g_start, g_sets, g_states, g_conflicts, 1, g_length, g_tokens, g_stuck, 0, g_value, g_place, b_term, b_size, b_skipped, b_left, b_right, b_width, b_op, b_constant, b_rank, b_grouping, bT, bS, bSk, bL, bW, bO, bC, b_follow, b_ends, b_first, b_last, b_none, b_set, b_leads, b_apart, b_state, b_to, b_look, b_begins, b_nullable, b_act, b_built, b_leadTo, b_text, b_fits, b_token, b_stack, b_worth)) : ∃ n161 : Nat, wY_build_161 post g_productions g_start g_sets g_states g_conflicts g_ready g_length g_tokens g_stuck g_scanned g_value g_place n161 0 b_term b_size b_skipped b_left b_right b_width b_op b_constant b_rank b_grouping b_bTerm b_bSize b_bSkipped b_bLeft b_bWidth b_bOp b_bConstant b_follow b_ends b_first b_last b_none b_set b_leads b_apart b_state b_to b_look b_begins b_nullable b_act b_built b_leadTo b_text b_fits b_token b_stack b_worth := by
  have l3 : ∀ bT bS bSk : Nat → Int32, (∀ k, (k < 32 → bT k = b_term k) ∧ (32 ≤ k → bT k = b_bTerm k)) → (∀ r, (r < 4 → bS r = b_size r) ∧ (4 ≤ r → bS r = b_bSize r)) → (∀ r, r < 4 → bSk r = vp_nar .boolean (b_skipped r)) →
      ∀ d p (bL bW bO bC : Nat → Int32), p + d = 8 → (∀ q, q < p → bL q = b_left q ∧ bW q = b_width q ∧ bO q = b_op q ∧ bC q = b_constant q) → wY_build_224 post g_productions g_start g_sets g_states g_conflicts g_ready g_length g_tokens g_stuck g_scanned g_value g_place (d + 1) (nI p) b_term b_size b_skipped b_left b_right b_width b_op b_constant b_rank b_grouping bT bS bSk bL bW bO bC b_follow b_ends b_first b_last b_none b_set b_leads b_apart b_state b_to b_look b_begins b_nullable b_act b_built b_leadTo b_text b_fits b_token b_stack b_worth := by
    intro bT bS bSk hT hS hSk d
    induction d with
    | zero =>
      intro p bL bW bO bC hp h
      have : p = 8 := by omega
      subst this
      exact pk_le 8 8 (fun _ => H bT bS bSk bL bW bO bC hT hS hSk h) (fun z => absurd z (by omega))
    | succ d ih =>
      intro p bL bW bO bC hp h
      have i9 : vp_in (nI p) 9 := vp_in_nI (by omega) (by omega)
      have i8 : vp_in (nI p) 8 := vp_in_nI (by omega) (by omega)
      refine pk_le 8 p (fun z => absurd z (by omega)) (fun _ => ⟨i9, i9, ?_⟩)
      rw [nI_clamp (show p < 2 ^ 31 by omega)]
      refine nm_e ⟨i9, i9, nm_e ⟨i8, i8, nm_e ⟨i8, i8, nm_e (nm_r (nI_1 p) (ih (p + 1) _ _ _ _ (by omega) (fun q hq => ?_)))⟩⟩⟩
      by_cases e : q = p
      · subst e; exact ⟨pk_us, pk_us, pk_us, pk_us⟩
      · rw [pk_un e, pk_un e, pk_un e, pk_un e]; exact h q (by omega)
  have l2 : ∀ bT : Nat → Int32, (∀ k, (k < 32 → bT k = b_term k) ∧ (32 ≤ k → bT k = b_bTerm k)) → ∀ d r (bS bSk : Nat → Int32), r + d = 4 → (∀ q, (q < r → bS q = b_size q) ∧ (r ≤ q → bS q = b_bSize q)) → (∀ q, q < r → bSk q = vp_nar .boolean (b_skipped q)) → wY_build_187 post g_productions g_start g_sets g_states g_conflicts g_ready g_length g_tokens g_stuck g_scanned g_value g_place (d + 1) (nI r) b_term b_size b_skipped b_left b_right b_width b_op b_constant b_rank b_grouping bT bS bSk b_bLeft b_bWidth b_bOp b_bConstant b_follow b_ends b_first b_last b_none b_set b_leads b_apart b_state b_to b_look b_begins b_nullable b_act b_built b_leadTo b_text b_fits b_token b_stack b_worth := by
    intro bT hT d
    induction d with
    | zero =>
      intro r bS bSk hr h1 h2
      have : r = 4 := by omega
      subst this
      exact pk_le 4 4 (fun _ => ⟨9, l3 bT bS bSk hT h1 h2 8 0 _ _ _ _ (by omega) (fun q hq => absurd hq (Nat.not_lt_zero _))⟩) (fun z => absurd z (by omega))
    | succ d ih =>
      intro r bS bSk hr h1 h2
      have ir : vp_in (nI r) 4 := vp_in_nI (by omega) (by omega)
      refine pk_le 4 r (fun z => absurd z (by omega)) (fun _ => ⟨ir, ir, ?_⟩)
      rw [nI_clamp (show r < 2 ^ 31 by omega)]
      refine nm_e ⟨ir, ir, nm_e (nm_r (nI_1 r) (ih (r + 1) _ _ (by omega) (fun q => ?_) (fun q hq => ?_)))⟩
      · by_cases e : q = r
        · subst e; exact ⟨fun _ => pk_us, fun z => absurd z (by omega)⟩
        · rw [pk_un e]; exact ⟨fun z => (h1 q).1 (by omega), fun z => (h1 q).2 (by omega)⟩
      · by_cases e : q = r
        · subst e; exact pk_us
        · rw [pk_un e]; exact h2 q (by omega)
  have l1 : ∀ d k (bT : Nat → Int32), k + d = 32 → (∀ q, (q < k → bT q = b_term q) ∧ (k ≤ q → bT q = b_bTerm q)) → wY_build_161 post g_productions g_start g_sets g_states g_conflicts g_ready g_length g_tokens g_stuck g_scanned g_value g_place (d + 1) (nI k) b_term b_size b_skipped b_left b_right b_width b_op b_constant b_rank b_grouping bT b_bSize b_bSkipped b_bLeft b_bWidth b_bOp b_bConstant b_follow b_ends b_first b_last b_none b_set b_leads b_apart b_state b_to b_look b_begins b_nullable b_act b_built b_leadTo b_text b_fits b_token b_stack b_worth := by
    intro d
    induction d with
    | zero =>
      intro k bT hk h
      have : k = 32 := by omega
      subst this
      exact pk_le 32 32 (fun _ => ⟨5, l2 bT h 4 0 _ _ (by omega) (fun q => ⟨fun z => absurd z (Nat.not_lt_zero _), fun _ => rfl⟩) (fun q hq => absurd hq (Nat.not_lt_zero _))⟩) (fun z => absurd z (by omega))
    | succ d ih =>
      intro k bT hk h
      have ik : vp_in (nI k) 32 := vp_in_nI (by omega) (by omega)
      refine pk_le 32 k (fun z => absurd z (by omega)) (fun _ => ⟨ik, ik, ?_⟩)
      rw [nI_clamp (show k < 2 ^ 31 by omega)]
      refine nm_e (nm_r (nI_1 k) (ih (k + 1) _ (by omega) (fun q => ?_)))
      by_cases e : q = k
      · subst e; exact ⟨fun _ => pk_us, fun z => absurd z (by omega)⟩
      · rw [pk_un e]; exact ⟨fun z => (h q).1 (by omega), fun z => (h q).2 (by omega)⟩
  exact ⟨33, l1 32 0 b_bTerm (by omega) (fun q => ⟨fun z => absurd z (Nat.not_lt_zero _), fun _ => rfl⟩)⟩
theorem y_88 {post : Int32 → SY → Prop} {ns c cc : Nat} (hns : ns ≤ 40) {cf : Int32}
    (Hc : ∀ (Q : Int32 → SY → Prop) (lt : Nat → Int32), (∀ ap : Nat → Int32, Q (nI cc) (g_productions, g_start, nI c, nI ns, cf, g_ready, g_length, g_tokens, g_stuck, g_scanned, g_value, g_place, b_term, b_size, b_skipped, b_left, b_right, b_width, b_op, b_constant, b_rank, b_grouping, b_bTerm, b_bSize, b_bSkipped, b_bLeft, b_bWidth, b_bOp, b_bConstant, b_follow, b_ends, b_first, b_last, b_none, b_set, b_leads, ap, b_state, b_to, b_look, b_begins, b_nullable, b_act, upd b_built 0 (nI c - 1), lt, b_text, b_fits, b_token, b_stack, b_worth)) → wpY_classes Q (g_productions, g_start, nI c, nI ns, cf, g_ready, g_length, g_tokens, g_stuck, g_scanned, g_value, g_place, b_term, b_size, b_skipped, b_left, b_right, b_width, b_op, b_constant, b_rank, b_grouping, b_bTerm, b_bSize, b_bSkipped, b_bLeft, b_bWidth, b_bOp, b_bConstant, b_follow, b_ends, b_first, b_last, b_none, b_set, b_leads, b_apart, b_state, b_to, b_look, b_begins, b_nullable, b_act, upd b_built 0 (nI c - 1), lt, b_text, b_fits, b_token, b_stack, b_worth))
    (H : ∀ lt ap : Nat → Int32, (∀ j, j < 7 * ns → lt j = b_to j) → ∃ n161 : Nat, wY_build_161 post g_productions g_start (nI c) (nI ns) cf g_ready g_length g_tokens g_stuck g_scanned g_value g_place n161 0 b_term b_size b_skipped b_left b_right b_width b_op b_constant b_rank b_grouping b_bTerm b_bSize b_bSkipped b_bLeft b_bWidth b_bOp b_bConstant b_follow b_ends b_first b_last b_none b_set b_leads ap b_state b_to b_look b_begins b_nullable b_act (upd (upd (upd (upd b_built 0 (nI c - 1)) 1 (nI cc)) 2 (nI ns)) 3 cf) lt b_text b_fits b_token b_stack b_worth) :
    ∃ n88 : Nat, wY_build_88 post g_productions g_start (nI c) (nI ns) cf g_ready g_length g_tokens g_stuck g_scanned g_value g_place n88 0 b_term b_size b_skipped b_left b_right b_width b_op b_constant b_rank b_grouping b_bTerm b_bSize b_bSkipped b_bLeft b_bWidth b_bOp b_bConstant b_follow b_ends b_first b_last b_none b_set b_leads b_apart b_state b_to b_look b_begins b_nullable b_act b_built b_leadTo b_text b_fits b_token b_stack b_worth := by
  have e7 : 7 * nI ns = nI (7 * ns) := by rw [show (7 : Int32) = nI 7 from rfl, pk_mul]
  have l1 : ∀ d k (lt : Nat → Int32), k + d = 7 * ns → (∀ q, q < k → lt q = b_to q) → wY_build_88 post g_productions g_start (nI c) (nI ns) cf g_ready g_length g_tokens g_stuck g_scanned g_value g_place (d + 1) (nI k) b_term b_size b_skipped b_left b_right b_width b_op b_constant b_rank b_grouping b_bTerm b_bSize b_bSkipped b_bLeft b_bWidth b_bOp b_bConstant b_follow b_ends b_first b_last b_none b_set b_leads b_apart b_state b_to b_look b_begins b_nullable b_act b_built lt b_text b_fits b_token b_stack b_worth := by
    intro d
    induction d with
    | zero =>
      intro k lt hk h
      have : k = 7 * ns := by omega
      subst this
      refine pk_le (7 * ns) (7 * ns) (fun _ => nm_e (Hc _ lt (fun ap => ?_))) (fun z => absurd z (by omega)) e7
      dsimp only
      exact nm_e (nm_e (nm_e (H lt ap h)))
    | succ d ih =>
      intro k lt hk h
      refine pk_le (7 * ns) k (fun z => absurd z (by omega)) (fun _ => ⟨vp_in_nI (by omega) (by omega), vp_in_nI (by omega) (by omega), ?_⟩) e7
      rw [nI_clamp (show k < 2 ^ 31 by omega)]
      refine nm_e (nm_r (nI_1 k) (ih (k + 1) _ (by omega) (fun q hq => ?_)))
      by_cases e : q = k
      · subst e; exact pk_us
      · rw [pk_un e]; exact h q (by omega)
  exact ⟨7 * ns + 1, l1 (7 * ns) 0 b_leadTo (by omega) (fun q hq => absurd hq (Nat.not_lt_zero _))⟩
end
end
section
/-! what was built is as the relation asks -/
def mkI (f : Nat → Bool) : Nat → Int64
  | 0 => 0
  | p + 1 => if f p then mkI f p ||| ((1 : Int64) <<< ((nI p).toInt64 &&& 63)) else mkI f p
theorem mk_b {f : Nat → Bool} {q : Nat} : ∀ n, n ≤ 64 → (bl (mkI f n) q = true ↔ q < n ∧ f q = true)
  | 0, _ => ⟨fun h => by unfold mkI at h; rw [zb_0] at h; exact absurd h (by decide), fun ⟨h, _⟩ => absurd h (Nat.not_lt_zero _)⟩
  | n + 1, hn => by
    unfold mkI
    by_cases c : f n = true
    · rw [if_pos c, zb_or, Bool.or_eq_true, mk_b n (by omega), zb_one (by omega), decide_eq_true_eq]
      constructor
      · rintro (⟨a, b⟩ | a)
        · exact ⟨by omega, b⟩
        · subst a; exact ⟨by omega, c⟩
      · rintro ⟨a, b⟩
        by_cases e : q = n
        · exact Or.inr e
        · exact Or.inl ⟨by omega, b⟩
    · rw [if_neg c, mk_b n (by omega)]
      constructor
      · rintro ⟨a, b⟩; exact ⟨by omega, b⟩
      · rintro ⟨a, b⟩
        by_cases e : q = n
        · subst e; exact absurd b c
        · exact ⟨by omega, b⟩
theorem mk_e {f : Nat → Bool} (h : ∀ q, f q = true → q < 32) (q : Nat) : bl (mkI f 32) q = f q := by
  rw [Bool.eq_iff_iff, mk_b 32 (by omega)]
  exact ⟨fun z => z.2, fun z => ⟨h q z, z⟩⟩
theorem yl_can {tm sz : Nat → Nat} (hw : rwf tm sz) : yLaid tm sz 4 (mkI (sta tm sz 4) 32) (fun r => mkI (TR tm sz r) 32) (fun p => mkI (gG tm sz 4 p) 32) :=
  ⟨fun q => mk_e (fun q h => (lc_i.mp (sta_sup hw.2.1 4 (by omega) q h)).1) q, fun r hr q => mk_e (fun q h => (lc_i.mp (TR_sup hw.2.1 hr h)).1) q, fun p _ q => mk_e (fun q h => (lc_i.mp (gG_sup hw.2.1 4 (by omega) p q h).2).1) q⟩
theorem yl_u {tm sz : Nat → Nat} {s s' : Int64} {e e' f f' : Nat → Int64} (h : yLaid tm sz 4 s e f) (g : yLaid tm sz 4 s' e' f') : s = s' ∧ (∀ r, r < 4 → e r = e' r) ∧ ∀ p, p < 32 → f p = f' p :=
  ⟨zb_ext fun q _ => by rw [h.1 q, g.1 q], fun r hr => zb_ext fun q _ => by rw [h.2.1 r hr q, g.2.1 r hr q], fun p hp => zb_ext fun q _ => by rw [h.2.2 p hp q, g.2.2 p hp q]⟩
theorem af_cg {f f' : Nat → Int64} {x : Int64} : ∀ n, (∀ p, p < n → f p = f' p) → afF f x n = afF f' x n
  | 0, _ => rfl
  | n + 1, h => by unfold afF; rw [af_cg n (fun p hp => h p (by omega)), h n (by omega)]
theorem tr_cg {f f' : Nat → Int64} {tm : Nat → Nat} {st : Int64} (h : ∀ p, p < 32 → f p = f' p) : trY f tm st = trY f' tm st := by
  funext s x l
  unfold trY
  rw [af_cg 32 h]
theorem mtc_cg {e e' : Nat → Int64} {x : Int64} (h : ∀ r, r < 4 → e r = e' r) : mtc e x 4 0 = mtc e' x 4 0 := by
  simp only [mtc, h 0 (by omega), h 1 (by omega), h 2 (by omega), h 3 (by omega)]
theorem dp_cg {tm tm' : Nat → Nat} {b n : Nat} (h : ∀ k, k < n → tm (b + k) = tm' (b + k)) : ∀ k, k ≤ n → dp tm b k = dp tm' b k
  | 0, _ => rfl
  | k + 1, hk => by
    show dp tm b k + 1 - tk (tm (b + k)) = dp tm' b k + 1 - tk (tm' (b + k))
    rw [dp_cg h k (by omega), h k (by omega)]
theorem ev_cg {tl tm tm' : Nat → Nat} {b n : Nat} (h : ∀ k, k < n → tm (b + k) = tm' (b + k)) : ∀ k, k ≤ n → ev tl tm b k = ev tl tm' b k
  | 0, _ => rfl
  | k + 1, hk => by
    show sm tl (tm (b + k)) (dp tm b k) (ev tl tm b k) = sm tl (tm' (b + k)) (dp tm' b k) (ev tl tm' b k)
    rw [dp_cg h k (by omega), h k (by omega), ev_cg h k (by omega)]
theorem wf_cg {tm tm' : Nat → Nat} {b n : Nat} (h : ∀ k, k < n → tm (b + k) = tm' (b + k)) (g : wf_ tm b n) : wf_ tm' b n := by
  refine ⟨fun k hk => ?_, ?_⟩
  · rw [← h k hk, ← dp_cg h k (by omega)]; exact g.1 k hk
  · rw [← dp_cg h n (Nat.le_refl _)]; exact g.2
theorem lg_cg {tl tm tm' sz sz' : Nat → Nat} {r i j : Nat} (hz : sz r = sz' r) (h : ∀ k, k < sz r → tm (8 * r + k) = tm' (8 * r + k)) : lg tl tm sz r i j ↔ lg tl tm' sz' r i j := by
  unfold lg
  rw [← hz, ev_cg h _ (Nat.le_refl _)]
theorem and0 {x y : Int64} : x &&& y = 0 ↔ ∀ i, ¬ (bl x i = true ∧ bl y i = true) := by
  constructor
  · intro h i z
    have : bl (x &&& y) i = true := by rw [zb_and, z.1, z.2]; rfl
    rw [h, zb_0] at this; exact absurd this (by decide)
  · intro h
    apply zb_ext
    intro i _
    rw [zb_and, zb_0]
    cases e1 : bl x i with
    | false => rfl
    | true =>
      cases e2 : bl y i with
      | false => rfl
      | true => exact absurd ⟨e1, e2⟩ (h i)
theorem mtc_s {en : Nat → Int64} {x : Int64} : (mtc en x 4 0 = -1 ∧ ∀ r, r < 4 → x &&& en r = 0) ∨ ∃ r, r < 4 ∧ mtc en x 4 0 = nI r ∧ x &&& en r ≠ 0 ∧ ∀ q, q < r → x &&& en q = 0 := by
  have key : ∀ d r, r + d = 4 → (∀ q, q < r → x &&& en q = 0) → (mtc en x d r = -1 ∧ ∀ q, q < 4 → x &&& en q = 0) ∨ ∃ p, p < 4 ∧ mtc en x d r = nI p ∧ x &&& en p ≠ 0 ∧ ∀ q, q < p → x &&& en q = 0 := by
    intro d
    induction d with
    | zero =>
      intro r hr h
      have : r = 4 := by omega
      subst this
      exact Or.inl ⟨rfl, h⟩
    | succ d ih =>
      intro r hr h
      unfold mtc
      by_cases c : x &&& en r = 0
      · rw [if_pos c]
        refine ih (r + 1) (by omega) (fun q hq => ?_)
        by_cases e : q = r
        · subst e; exact c
        · exact h q (by omega)
      · rw [if_neg c]
        exact Or.inr ⟨r, by omega, rfl, c, h⟩
  exact key 4 0 (by omega) (fun q hq => absurd hq (Nat.not_lt_zero _))
/-- the component's and the reference's sets meet the same rules' ends -/
theorem ends_i {tm sz : Nat → Nat} {pl fo re : Nat → Int32} {start : Int64} {ends foY : Nat → Int64} (hw : rwf tm sz) (hx : xLaid tm sz 4 pl fo re) (hy : yLaid tm sz 4 start ends foY) {v w : Int64} (h : (v = 65536 ∧ w = 0) ∨ rpS tm sz v w) {r : Nat} (hr : r < 4) : ((re r).toInt64 &&& v) = 0 ↔ (w &&& ends r) = 0 := by
  have u16 : lcn tm sz 32 ≤ 16 := lcn_4 hw 4 (by omega)
  have hre := hx.2.2.1 r hr
  have hbl : ∀ p, bl (re r).toInt64 p = true ↔ p < lcn tm sz 32 ∧ bt (re r) p = true := by
    intro p
    have h31 : bt (re r) 31 = false := hre.2 31 (by show lcn tm sz 32 ≤ 31; omega)
    by_cases c : p < 32
    · rw [zc_long _ c]
      refine ⟨fun z => ⟨?_, z⟩, fun z => z.2⟩
      rcases Nat.lt_or_ge p (lcn tm sz 32) with y | y
      · exact y
      · rw [hre.2 p y] at z; exact absurd z (by decide)
    · rw [zc_longH _ (by omega) h31]
      exact ⟨fun z => absurd z (by decide), fun z => by omega⟩
  rw [and0, and0]
  rcases h with ⟨rfl, rfl⟩ | h
  · refine ⟨fun _ i z => by rw [zb_0] at z; exact absurd z.1 (by decide), fun _ i z => ?_⟩
    have h1 := (hbl i).mp z.1
    have : i = 16 := by
      by_cases c : i < 64
      · have : ∀ p, p < 64 → bl 65536 p = true → p = 16 := by decide +kernel
        exact this i c z.2
      · have z2 := z.2
        rw [zb_big (by omega)] at z2; exact absurd z2 (by decide)
    omega
  · constructor
    · intro hno q z
      have hT : TR tm sz r q = true := by rw [← hy.2.1 r hr q]; exact z.2
      have hl := TR_sup hw.2.1 hr hT
      have h16 := lc_16 hw hl
      exact hno (lcn tm sz q) ⟨(hbl _).mpr ⟨h16.1, by rw [hre.1 q hl]; exact hT⟩, by rw [h.1 q hl]; exact z.1⟩
    · intro hno p z
      obtain ⟨h1, h2⟩ := (hbl p).mp z.1
      obtain ⟨q, hq, hl, rfl⟩ := lcn_on 32 p h1
      exact hno q ⟨by rw [← h.1 q hl]; exact z.2, by rw [hy.2.1 r hr q, ← hre.1 q hl]; exact h2⟩
/-- the automaton that was listed reads what the rules stand for -/
theorem sc_mk {tm sz : Nat → Nat} {start : Int64} {ends fo : Nat → Int64} (hw : rwf tm sz) (hy : yLaid tm sz 4 start ends fo) {b0 b : Nat × (Nat → Int64) × (Nat → Int32)} (h1 : b0.1 = 1) (h00 : b0.2.1 0 = 0) (hb : bf 61 4 (trY fo tm start) b0 61 = some b)
    {st ma bT bS : Nat → Int32} (hst : ∀ j, j < 4 * b.1 → st j = b.2.2 j) (hma : ∀ s, s < b.1 → ma s = mtc ends (b.2.1 s) 4 0) (hru : ru_ok bT bS) (hT : ∀ k, k < 32 → nv bT k = tm k) (hS : ∀ r, r < 4 → nv bS r = sz r) : sc_ok st ma bT bS := by
  obtain ⟨⟨i1, i2, i3, i4⟩, i5⟩ := bf_i h1 (by omega) 61 b hb
  rw [h00] at i5
  have hcell : ∀ s l, s < b.1 → l < 4 → (trY fo tm start s (b.2.1 s) l = 0 ∧ st (4 * s + l) = -1) ∨ (trY fo tm start s (b.2.1 s) l ≠ 0 ∧ ∃ k, 1 ≤ k ∧ k < b.1 ∧ b.2.1 k = trY fo tm start s (b.2.1 s) l ∧ st (4 * s + l) = nI k) := by
    intro s l hs hl
    rw [hst _ (by omega)]
    rcases i3 s l hs hl (Or.inl (by omega)) with z | ⟨z1, k, z2, z3, z4⟩
    · exact Or.inl z
    · refine Or.inr ⟨z1, k, ?_, z2, z3, z4⟩
      rcases Nat.eq_zero_or_pos k with y | y
      · subst y; rw [i5] at z3; exact absurd z3.symm z1
      · exact y
  have hT8 : ∀ r, r < 4 → ∀ k, k < sz r → tm (8 * r + k) = nv bT (8 * r + k) := fun r hr k hk => (hT _ (by have := hw.2.1 r; omega)).symm
  refine ⟨hru, fun r hr => ?_, b.1, i1, i2, fun s l hs hl => ?_, fun s hs => ?_, fun tl htl a m => ?_⟩
  · rw [hS r hr]; exact wf_cg (hT8 r hr) (hw.2.2 r hr)
  · rcases hcell s l hs hl with z | ⟨_, k, _, z2, _, z4⟩
    · exact Or.inl z.2
    · exact Or.inr ⟨k, z2, z4⟩
  · rw [hma s hs]
    rcases mtc_s (en := ends) (x := b.2.1 s) with z | ⟨r, z1, z2, _⟩
    · exact Or.inl z.1
    · exact Or.inr ⟨r, z1, z2⟩
  · have run : ∀ m, (dr st tl a (m + 1) = -1 ∧ ∀ q, ¬ Rn (gG tm sz 4) (sta tm sz 4) (rdp tm tl) a m q) ∨ ∃ s, 1 ≤ s ∧ s < b.1 ∧ dr st tl a (m + 1) = nI s ∧ ∀ q, bl (b.2.1 s) q = true ↔ Rn (gG tm sz 4) (sta tm sz 4) (rdp tm tl) a m q := by
      intro m
      induction m with
      | zero =>
        have hd : dr st tl a 1 = st (4 * 0 + tl a) := by
          show (if dr st tl a 0 = -1 then -1 else st (4 * (dr st tl a 0).toNatClampNeg + tl (a + 0))) = _
          rw [if_neg (by show ¬ (0 : Int32) = -1; decide)]; rfl
        have hbits : ∀ q, bl (trY fo tm start 0 (b.2.1 0) (tl a)) q = true ↔ Rn (gG tm sz 4) (sta tm sz 4) (rdp tm tl) a 0 q := by
          intro q
          unfold trY
          rw [if_pos rfl, rd_b 32 (by omega), hy.1 q]
          show _ ↔ (sta tm sz 4 q = true ∧ (tm q = 4 ∨ tl a = tm q))
          exact ⟨fun ⟨_, x, y⟩ => ⟨x, y.imp id Eq.symm⟩, fun ⟨x, y⟩ => ⟨(lc_i.mp (sta_sup hw.2.1 4 (by omega) q x)).1, x, y.imp id Eq.symm⟩⟩
        rw [hd]
        rcases hcell 0 (tl a) i1 (htl a) with ⟨z1, z2⟩ | ⟨z1, k, z0, z2, z3, z4⟩
        · refine Or.inl ⟨z2, fun q hq => ?_⟩
          have := (hbits q).mpr hq
          rw [z1, zb_0] at this; exact absurd this (by decide)
        · exact Or.inr ⟨k, z0, z2, z4, fun q => by rw [z3]; exact hbits q⟩
      | succ m ih =>
        rcases ih with ⟨h1, h2⟩ | ⟨s, s1, s2, s3, s4⟩
        · refine Or.inl ⟨?_, fun q ⟨p, hp, _⟩ => h2 p hp⟩
          show (if dr st tl a (m + 1) = -1 then -1 else _) = _
          rw [if_pos h1]
        · have hd : dr st tl a (m + 1 + 1) = st (4 * s + tl (a + (m + 1))) := by
            show (if dr st tl a (m + 1) = -1 then -1 else st (4 * (dr st tl a (m + 1)).toNatClampNeg + tl (a + (m + 1)))) = _
            rw [s3, if_neg (zn_ne1 (by omega)), nI_clamp (by omega)]
          have hbits : ∀ q, bl (trY fo tm start s (b.2.1 s) (tl (a + (m + 1)))) q = true ↔ Rn (gG tm sz 4) (sta tm sz 4) (rdp tm tl) a (m + 1) q := by
            intro q
            unfold trY
            rw [if_neg (by omega), rd_b 32 (by omega), af_b]
            constructor
            · rintro ⟨x, ⟨p, p1, p2, p3⟩, y⟩
              exact ⟨p, (s4 p).mp p2, by rw [← hy.2.2 p p1 q]; exact p3, y.imp id Eq.symm⟩
            · rintro ⟨p, p2, p3, y⟩
              have hsup := gG_sup hw.2.1 4 (by omega) p q p3
              have hp32 := (lc_i.mp hsup.1).1
              exact ⟨(lc_i.mp hsup.2).1, ⟨p, hp32, (s4 p).mpr p2, by rw [hy.2.2 p hp32 q]; exact p3⟩, y.imp id Eq.symm⟩
          rw [hd]
          rcases hcell s _ s2 (htl (a + (m + 1))) with ⟨z1, z2⟩ | ⟨z1, k, z0, z2, z3, z4⟩
          · refine Or.inl ⟨z2, fun q hq => ?_⟩
            have := (hbits q).mpr hq
            rw [z1, zb_0] at this; exact absurd this (by decide)
          · exact Or.inr ⟨k, z0, z2, z4, fun q => by rw [z3]; exact hbits q⟩
    have hlg : ∀ r, r < 4 → (lg tl (nv bT) (nv bS) r a (a + m + 1) ↔ ∃ q, Rn (gG tm sz 4) (sta tm sz 4) (rdp tm tl) a m q ∧ TR tm sz r q = true) := by
      intro r hr
      rw [glu hw hr]
      exact (lg_cg (hS r hr).symm (hT8 r hr)).symm
    rcases run m with ⟨h1, h2⟩ | ⟨s, s1, s2, s3, s4⟩
    · refine Or.inl ⟨?_, fun r hr z => ?_⟩
      · unfold sc_v; rw [if_pos h1]
      · obtain ⟨q, hq, _⟩ := (hlg r hr).mp z
        exact h2 q hq
    · have hv : sc_v st ma tl a (m + 1) = mtc ends (b.2.1 s) 4 0 := by
        unfold sc_v; rw [s3, if_neg (zn_ne1 (by omega)), nI_clamp (by omega), hma s s2]
      have hz : ∀ r, r < 4 → (b.2.1 s &&& ends r = 0 ↔ ¬ lg tl (nv bT) (nv bS) r a (a + m + 1)) := by
        intro r hr
        rw [hlg r hr, and0]
        constructor
        · rintro h ⟨q, hq, ht⟩
          exact h q ⟨(s4 q).mpr hq, by rw [hy.2.1 r hr q]; exact ht⟩
        · intro h q z
          exact h ⟨q, (s4 q).mp z.1, by rw [← hy.2.1 r hr q]; exact z.2⟩
      unfold sc_m
      rw [hv]
      rcases mtc_s (en := ends) (x := b.2.1 s) with ⟨z1, z2⟩ | ⟨r, z1, z2, z3, z4⟩
      · exact Or.inl ⟨z1, fun r hr => (hz r hr).mp (z2 r hr)⟩
      · refine Or.inr ⟨r, z1, z2, Classical.byContradiction fun y => z3 ((hz r z1).mpr y), fun q hq => (hz q (by omega)).mp (z4 q hq)⟩
/-- the beginning alone is listed just where no rule begins -/
theorem start_1 {tm sz : Nat → Nat} {start : Int64} {ends fo : Nat → Int64} (hw : rwf tm sz) (hy : yLaid tm sz 4 start ends fo) {b0 b : Nat × (Nat → Int64) × (Nat → Int32)} (h1 : b0.1 = 1) (h00 : b0.2.1 0 = 0) (hb : bf 61 4 (trY fo tm start) b0 61 = some b) : start = 0 ↔ b.1 = 1 := by
  obtain ⟨⟨i1, i2, i3, i4⟩, i5⟩ := bf_i h1 (by omega) 61 b hb
  rw [h00] at i5
  constructor
  · intro e
    rcases Nat.lt_or_ge 1 b.1 with z | z
    · obtain ⟨j1, p, m, j2, j3, j4⟩ := i4 1 (Nat.le_refl _) z
      exfalso
      apply j1
      have : p = 0 := by omega
      subst this
      rw [j4]
      apply zb_ext
      intro q _
      rw [zb_0]
      cases hq : bl (trY fo tm start 0 (b.2.1 0) m) q with
      | false => rfl
      | true =>
        unfold trY at hq
        rw [if_pos rfl, rd_b 32 (by omega), e, zb_0] at hq
        exact absurd hq.2.1 (by decide)
    · omega
  · intro e
    apply zb_ext
    intro q _
    rw [zb_0]
    cases hq : bl start q with
    | false => rfl
    | true =>
      exfalso
      have hs : sta tm sz 4 q = true := by rw [← hy.1 q]; exact hq
      have hl := lc_i.mp (sta_sup hw.2.1 4 (by omega) q hs)
      have key : ∀ l, l < 4 → trY fo tm start 0 (b.2.1 0) l = 0 := by
        intro l hl4
        rcases i3 0 l (by omega) hl4 (Or.inl (by omega)) with z | ⟨z1, k, z2, z3, _⟩
        · exact z.1
        · have : k = 0 := by omega
          subst this
          rw [← z3, i5]
      have : ∃ l, l < 4 ∧ (tm q = 4 ∨ tm q = l) := by
        by_cases c : tm q = 4
        · exact ⟨0, by omega, Or.inl c⟩
        · exact ⟨tm q, by omega, Or.inr rfl⟩
      obtain ⟨l, hl4, hm⟩ := this
      have hbit : bl (trY fo tm start 0 (b.2.1 0) l) q = true := by
        unfold trY
        rw [if_pos rfl, rd_b 32 (by omega)]
        exact ⟨hl.1, hq, hm⟩
      rw [key l hl4, zb_0] at hbit
      exact absurd hbit (by decide)
/-! facts of the states -/
section
variable {pc : Nat} {L W : Nat → Nat} {R : Nat → Nat → Nat}
theorem tr_or (hV : gr_V pc L W R) {v : Int64} {x j : Nat} (hx : x < 2 ^ 31) (h : bl (clo pc L W R (bhF W R v (nI x) 34)) j = true) : (j % 4 ≠ 0 ∧ bl v (j - 1) = true ∧ (j - 1) % 4 < W ((j - 1) / 4) ∧ j / 4 = (j - 1) / 4) ∨ (∃ p i, p < pc ∧ j = 4 * p ∧ i < 34 ∧ bl (clo pc L W R (bhF W R v (nI x) 34)) i = true ∧ nxt W R i = nI (L p)) := by
  rcases clo_or h with z | ⟨i, i1, i2, i3⟩
  · have h1 := bh_in hV (zn_ne1 hx) (by omega) z
    obtain ⟨i, i1, i2, i3, rfl⟩ := (bh_b 34 (by omega)).mp z
    refine Or.inl ⟨h1.2, i2, ?_, by omega⟩
    unfold nxt at i3
    by_cases c : i % 4 < W (i / 4)
    · exact c
    · rw [if_neg c] at i3; exact absurd i3.symm (zn_ne1 hx)
  · obtain ⟨p, p1, p2, p3⟩ := (bg_b pc hV.1).mp i3
    exact Or.inr ⟨p, i, p1, p3, i1, i2, p2.symm⟩
theorem st_or (hV : gr_V pc L W R) {j : Nat} (h : bl (st0 pc L W R) j = true) : j = 32 ∨ ∃ p i, p < pc ∧ j = 4 * p ∧ i < 34 ∧ bl (st0 pc L W R) i = true ∧ nxt W R i = nI (L p) := by
  rcases clo_or h with z | ⟨i, i1, i2, i3⟩
  · exact Or.inl ((b32 j).mp z)
  · obtain ⟨p, p1, p2, p3⟩ := (bg_b pc hV.1).mp i3
    exact Or.inr ⟨p, i, p1, p3, i1, i2, p2.symm⟩
theorem sc13 (m : Nat) (hm : m < 7) : sc m < 2 ^ 31 := by unfold sc; split <;> omega
/-- states: their items are productions', and where their items lead -/
theorem st_f (hV : gr_V pc L W R) {b0 b : Nat × (Nat → Int64) × (Nat → Int32)} (h1 : b0.1 = 1) (h00 : b0.2.1 0 = st0 pc L W R) (hb : bf 40 7 (trS pc L W R) b0 40 = some b) :
    1 ≤ b.1 ∧ b.1 ≤ 40 ∧ b.2.1 0 = st0 pc L W R ∧ (∀ s j, s < b.1 → 34 ≤ j → bl (b.2.1 s) j = false) ∧
    (∀ s x, s < b.1 → sym x → b.2.2 (7 * s + col x) = -1 ∨ ∃ t, 0 < t ∧ t < b.1 ∧ b.2.2 (7 * s + col x) = nI t ∧ ∀ j, bl (b.2.1 t) j = true → j % 4 ≠ 0 → bl (b.2.1 s) (j - 1) = true) ∧
    (∀ s i, s < b.1 → i < 34 → bl (b.2.1 s) i = true → i % 4 < W (i / 4) → ∃ t, t < b.1 ∧ b.2.2 (7 * s + col (R (i / 4) (i % 4))) = nI t) ∧
    (∀ s p, s < b.1 → p < 8 → bl (b.2.1 s) (4 * p) = true → p < pc ∧ b.2.2 (7 * s + col (L p)) ≠ -1) ∧
    (∀ j, bl (b.2.1 0) j = true → j % 4 = 0) ∧ (∀ s, s < b.1 → bl (b.2.1 s) 32 = true → s = 0) ∧
    (∀ s p, s < b.1 → pc ≤ p → p < 8 → bl (b.2.1 s) (4 * p + W p) = false) := by
  have hpc := hV.1
  obtain ⟨i0, i5⟩ := bf_i h1 (by omega) 40 b hb
  obtain ⟨i1, i2, i3, i4⟩ := id i0
  rw [h00] at i5
  have from_ : ∀ s, s < b.1 → b.2.1 s = st0 pc L W R ∨ ∃ p m, p < s ∧ m < 7 ∧ b.2.1 s = clo pc L W R (bhF W R (b.2.1 p) (nI (sc m)) 34) := by
    intro s hs
    rcases Nat.eq_zero_or_pos s with z | z
    · subst z; exact Or.inl i5
    · obtain ⟨_, p, m, q1, q2, q3⟩ := i4 s z hs
      exact Or.inr ⟨p, m, q1, q2, q3⟩
  -- the items of a state belong to productions
  have own : ∀ n s, s < n → s < b.1 → ∀ j, bl (b.2.1 s) j = true → j / 4 < pc ∨ j / 4 = 8 := by
    intro n
    induction n with
    | zero => intro s hs; omega
    | succ n ih =>
      intro s hsn hs j hj
      rcases from_ s hs with e | ⟨p, m, p1, p2, e⟩
      · rw [e] at hj
        rcases st_or hV hj with z | ⟨p, i, z1, z2, _⟩
        · subst z; exact Or.inr rfl
        · left; omega
      · rw [e] at hj
        rcases tr_or hV (sc13 m p2) hj with ⟨z1, z2, z3, z4⟩ | ⟨p, i, z1, z2, _⟩
        · rw [z4]; exact ih p (by omega) (by omega) _ z2
        · left; omega
  have lead : ∀ s i, s < b.1 → i < 34 → bl (b.2.1 s) i = true → i % 4 < W (i / 4) → ∃ t, t < b.1 ∧ b.2.2 (7 * s + col (R (i / 4) (i % 4))) = nI t := by
    intro s i hs hi hb1 hc
    have hsy : sym (R (i / 4) (i % 4)) := (hV.2.1 (i / 4)).2.2 _ hc
    obtain ⟨c1, c2⟩ := col_s hsy
    rcases i3 s _ hs c1 (Or.inl (by omega)) with ⟨z1, _⟩ | ⟨_, k, z2, _, z4⟩
    · exfalso
      unfold trS at z1
      rw [c2] at z1
      have hx : bl (bhF W R (b.2.1 s) (nI (R (i / 4) (i % 4))) 34) (i + 1) = true := (bh_b 34 (by omega)).mpr ⟨i, hi, hb1, by unfold nxt; rw [if_pos hc], rfl⟩
      have := clo_le (pc := pc) (L := L) (W := W) (R := R) hx
      rw [z1, zb_0] at this; exact absurd this (by decide)
    · exact ⟨k, z2, z4⟩
  refine ⟨i1, i2, i5, fun s j hs hj => st34 hV i0 i5 hs hj, fun s x hs hx => ?_, lead, fun s p hs hp hbp => ?_, fun j hj => ?_, fun s hs h32 => ?_, fun s p hs h1 h2 => ?_⟩
  · obtain ⟨c1, c2⟩ := col_s hx
    have hx31 : x < 2 ^ 31 := by rcases hx with z | z <;> omega
    rcases i3 s _ hs c1 (Or.inl (by omega)) with ⟨_, z2⟩ | ⟨_, k, z2, z3, z4⟩
    · exact Or.inl z2
    · unfold trS at z3
      rw [c2] at z3
      refine Or.inr ⟨k, ?_, z2, z4, fun j hj hj4 => ?_⟩
      · rcases Nat.eq_zero_or_pos k with y | y
        · subst y
          exfalso
          have : bl (b.2.1 0) 32 = true := by rw [i5]; exact clo_le ((b32 32).mpr rfl)
          rw [z3] at this
          rcases tr_or hV hx31 this with ⟨w1, _⟩ | ⟨p, i, w1, w2, _⟩
          · exact w1 rfl
          · omega
        · exact y
      · rw [z3] at hj
        rcases tr_or hV hx31 hj with ⟨_, w2, _⟩ | ⟨p, i, w1, w2, _⟩
        · exact w2
        · omega
  · have base : ∃ i, p < pc ∧ i < 34 ∧ bl (b.2.1 s) i = true ∧ nxt W R i = nI (L p) := by
      rcases from_ s hs with e | ⟨q, m, q1, q2, e⟩
      · have hb2 := hbp
        rw [e] at hb2
        rcases st_or hV hb2 with z | ⟨p', i, z1, z2, z3, z4, z5⟩
        · omega
        · have : p' = p := by omega
          subst this
          exact ⟨i, z1, z3, by rw [e]; exact z4, z5⟩
      · have hb2 := hbp
        rw [e] at hb2
        rcases tr_or hV (sc13 m q2) hb2 with ⟨z1, _⟩ | ⟨p', i, z1, z2, z3, z4, z5⟩
        · omega
        · have : p' = p := by omega
          subst this
          exact ⟨i, z1, z3, by rw [e]; exact z4, z5⟩
    obtain ⟨i, p1, p2, p3, p4⟩ := base
    have hL := hV.2.2.1 p p1
    refine ⟨p1, ?_⟩
    unfold nxt at p4
    by_cases c : i % 4 < W (i / 4)
    · rw [if_pos c] at p4
      have hsy := (hV.2.1 (i / 4)).2.2 _ c
      have hR : R (i / 4) (i % 4) = L p := zn_inj (by rcases hsy with z | z <;> omega) (by omega) p4
      obtain ⟨t, t1, t2⟩ := lead s i hs p2 p3 c
      rw [hR] at t2
      rw [t2]; exact zn_ne1 (by omega)
    · rw [if_neg c] at p4; exact absurd p4.symm (zn_ne1 (by omega))
  · rw [i5] at hj
    rcases st_or hV hj with z | ⟨p, i, z1, z2, _⟩
    · subst z; rfl
    · omega
  · rcases Nat.eq_zero_or_pos s with y | y
    · exact y
    · exfalso
      obtain ⟨_, p, m, q1, q2, q3⟩ := i4 s y hs
      rw [q3] at h32
      rcases tr_or hV (sc13 m q2) h32 with ⟨w1, _⟩ | ⟨p, i, w1, w2, _⟩
      · exact w1 rfl
      · omega
  · cases e : bl (b.2.1 s) (4 * p + W p) with
    | false => rfl
    | true =>
      have hw := (hV.2.1 p).2.1
      have := own (s + 1) s (by omega) hs _ e
      omega
/-- the actions are as the relation asks -/
theorem ac_mk (hV : gr_V pc L W R) {ns : Nat} {G : Nat → Int64} {M mv : Nat → Int32} {la : Nat → Nat → Int32} {ra gr : Nat → Int32} (hns : ns ≤ 40) {s t : Nat} (hs : s < ns) (ht : t < 5) (hM : ∀ x, sym x → mv (13 * s + x) = M (7 * s + col x)) (hMq : ∀ x, sym x → M (7 * s + col x) = -1 ∨ ∃ q, q < ns ∧ M (7 * s + col x) = nI q) :
    ac_ok (fun s j => bl (G s) j) W mv s t (actO W R G M la ra gr s t).1 (actO W R G M la ra gr s t).2.1 := by
  obtain ⟨-, -, f3, f4, f5⟩ := fo_e (crB W G la s t)
  unfold actO
  generalize hch : (xfo (crB W G la s t) 9).1 = ch at *
  generalize (xfo (crB W G la s t) 9).2 = n at *
  have red : ch < 8 → ac_ok (fun s j => bl (G s) j) W mv s t (nI ch) (nI (100 + ch)) := by
    intro h8
    refine Or.inr (Or.inr (Or.inr ⟨ch, h8, rfl, rfl, ?_⟩))
    rcases f5 with z | ⟨_, z⟩
    · omega
    · unfold crB at z
      rw [Bool.and_eq_true] at z
      exact z.1
  unfold onF
  by_cases c : t < 4 ∧ M (7 * s + t) ≠ -1
  · rw [if_pos c]
    have hcol : col t = t := by unfold col; rw [if_pos c.1]
    have hq := hMq t (Or.inl c.1)
    have hmv := hM t (Or.inl c.1)
    rw [hcol] at hq hmv
    obtain ⟨q, q1, q2⟩ := hq.resolve_left c.2
    have shf : ac_ok (fun s j => bl (G s) j) W mv s t 9 (nI (2 + (M (7 * s + t)).toNatClampNeg)) := by
      refine Or.inr (Or.inr (Or.inl ⟨rfl, c.1, q, by omega, by rw [hmv, q2], ?_⟩))
      rw [q2, nI_clamp (by omega)]
    unfold actF
    dsimp only
    by_cases n0 : n = 0
    · rw [if_pos n0]; exact shf
    · rw [if_neg n0]
      by_cases r0 : rkF ra R ch (W ch) = 0 ∨ ra t = 0
      · rw [if_pos r0]; exact shf
      · rw [if_neg r0]
        have h8 : ch < 8 := by
          have c9 : ch ≠ 9 := fun z => n0 (f3.mpr z)
          rcases f5 with z | ⟨z, _⟩
          · exact absurd z c9
          · by_cases e : ch = 8
            · exfalso
              apply r0
              left
              rw [e, hV.2.2.2.2.1]
              show (if R 8 0 < 4 then _ else (0 : Int32)) = 0
              rw [hV.2.2.2.2.2, if_neg (by omega)]
            · omega
        by_cases re : rkF ra R ch (W ch) = ra t
        · rw [if_pos re]
          by_cases g0 : gr t = 0
          · rw [if_pos g0]; exact red h8
          · rw [if_neg g0]
            by_cases g1 : gr t = 1
            · rw [if_pos g1]; exact shf
            · rw [if_neg g1]; exact Or.inl ⟨rfl, rfl⟩
        · rw [if_neg re]
          by_cases rl : rkF ra R ch (W ch) ≤ ra t
          · rw [if_pos rl]; exact shf
          · rw [if_neg rl]; exact red h8
  · rw [if_neg c]
    unfold actF
    dsimp only
    by_cases c9 : ch = 9
    · rw [if_pos c9, if_pos c9]; exact Or.inl ⟨rfl, rfl⟩
    · rw [if_neg c9, if_neg c9]
      by_cases e : ch = 8
      · rw [if_pos e]
        refine Or.inr (Or.inl ⟨by rw [e]; rfl, rfl, ?_⟩)
        rcases f5 with z | ⟨_, z⟩
        · omega
        · unfold crB at z
          rw [Bool.and_eq_true, e, hV.2.2.2.2.1] at z
          exact z.1
      · rw [if_neg e]
        exact red (by rcases f5 with z | ⟨z, _⟩ <;> omega)
end
end
section
/-! the reference's build -/
section
variable {g_productions : Int32} {g_start : Int64} {g_sets g_states g_conflicts g_ready g_length g_tokens g_stuck g_scanned g_value g_place : Int32} {b_term b_size b_skipped b_left b_right b_width b_op b_constant b_rank b_grouping b_bTerm b_bSize b_bSkipped b_bLeft b_bWidth b_bOp b_bConstant : Nat → Int32} {b_follow b_ends b_first b_last : Nat → Int64} {b_none : Nat → Int32} {b_set : Nat → Int64} {b_leads b_apart : Nat → Int32} {b_state : Nat → Int64} {b_to b_look b_begins b_nullable b_act b_built b_leadTo b_text b_fits b_token b_stack b_worth : Nat → Int32} {post : Int32 → SY → Prop}
theorem yb_2 (hru : ru_ok b_term b_size)
    (H1 : (∀ r, r < 4 → wf_ (nv b_term) (8 * r) (nv b_size r)) → wpY_listSets (fun r_2 u => match u with | (g_productions, g_start, g_sets, g_states, g_conflicts, g_ready, g_length, g_tokens, g_stuck, g_scanned, g_value, g_place, b_term, b_size, b_skipped, b_left, b_right, b_width, b_op, b_constant, b_rank, b_grouping, b_bTerm, b_bSize, b_bSkipped, b_bLeft, b_bWidth, b_bOp, b_bConstant, b_follow, b_ends, b_first, b_last, b_none, b_set, b_leads, b_apart, b_state, b_to, b_look, b_begins, b_nullable, b_act, b_built, b_leadTo, b_text, b_fits, b_token, b_stack, b_worth) => ((r_2 = 0 → post 2 (g_productions, g_start, g_sets, g_states, g_conflicts, g_ready, g_length, g_tokens, g_stuck, g_scanned, g_value, g_place, b_term, b_size, b_skipped, b_left, b_right, b_width, b_op, b_constant, b_rank, b_grouping, b_bTerm, b_bSize, b_bSkipped, b_bLeft, b_bWidth, b_bOp, b_bConstant, b_follow, b_ends, b_first, b_last, b_none, b_set, b_leads, b_apart, b_state, b_to, b_look, b_begins, b_nullable, b_act, b_built, b_leadTo, b_text, b_fits, b_token, b_stack, b_worth)) ∧ (¬ r_2 = 0 → wpY_listStates (fun r_54 u => match u with | (g_productions, g_start, g_sets, g_states, g_conflicts, g_ready, g_length, g_tokens, g_stuck, g_scanned, g_value, g_place, b_term, b_size, b_skipped, b_left, b_right, b_width, b_op, b_constant, b_rank, b_grouping, b_bTerm, b_bSize, b_bSkipped, b_bLeft, b_bWidth, b_bOp, b_bConstant, b_follow, b_ends, b_first, b_last, b_none, b_set, b_leads, b_apart, b_state, b_to, b_look, b_begins, b_nullable, b_act, b_built, b_leadTo, b_text, b_fits, b_token, b_stack, b_worth) => ((r_54 = 0 → post 2 (g_productions, g_start, g_sets, g_states, g_conflicts, g_ready, g_length, g_tokens, g_stuck, g_scanned, g_value, g_place, b_term, b_size, b_skipped, b_left, b_right, b_width, b_op, b_constant, b_rank, b_grouping, b_bTerm, b_bSize, b_bSkipped, b_bLeft, b_bWidth, b_bOp, b_bConstant, b_follow, b_ends, b_first, b_last, b_none, b_set, b_leads, b_apart, b_state, b_to, b_look, b_begins, b_nullable, b_act, b_built, b_leadTo, b_text, b_fits, b_token, b_stack, b_worth)) ∧ (¬ r_54 = 0 → wpY_beginningsOf (fun u => match u with | (g_productions, g_start, g_sets, g_states, g_conflicts, g_ready, g_length, g_tokens, g_stuck, g_scanned, g_value, g_place, b_term, b_size, b_skipped, b_left, b_right, b_width, b_op, b_constant, b_rank, b_grouping, b_bTerm, b_bSize, b_bSkipped, b_bLeft, b_bWidth, b_bOp, b_bConstant, b_follow, b_ends, b_first, b_last, b_none, b_set, b_leads, b_apart, b_state, b_to, b_look, b_begins, b_nullable, b_act, b_built, b_leadTo, b_text, b_fits, b_token, b_stack, b_worth) => wpY_carry (fun u => match u with | (g_productions, g_start, g_sets, g_states, g_conflicts, g_ready, g_length, g_tokens, g_stuck, g_scanned, g_value, g_place, b_term, b_size, b_skipped, b_left, b_right, b_width, b_op, b_constant, b_rank, b_grouping, b_bTerm, b_bSize, b_bSkipped, b_bLeft, b_bWidth, b_bOp, b_bConstant, b_follow, b_ends, b_first, b_last, b_none, b_set, b_leads, b_apart, b_state, b_to, b_look, b_begins, b_nullable, b_act, b_built, b_leadTo, b_text, b_fits, b_token, b_stack, b_worth) => ∃ n54 : Nat, wY_build_54 post n54 0 g_productions g_start g_sets g_states 0 g_ready g_length g_tokens g_stuck g_scanned g_value g_place b_term b_size b_skipped b_left b_right b_width b_op b_constant b_rank b_grouping b_bTerm b_bSize b_bSkipped b_bLeft b_bWidth b_bOp b_bConstant b_follow b_ends b_first b_last b_none b_set b_leads b_apart b_state b_to b_look b_begins b_nullable b_act b_built b_leadTo b_text b_fits b_token b_stack b_worth) (g_productions, g_start, g_sets, g_states, g_conflicts, g_ready, g_length, g_tokens, g_stuck, g_scanned, g_value, g_place, b_term, b_size, b_skipped, b_left, b_right, b_width, b_op, b_constant, b_rank, b_grouping, b_bTerm, b_bSize, b_bSkipped, b_bLeft, b_bWidth, b_bOp, b_bConstant, b_follow, b_ends, b_first, b_last, b_none, b_set, b_leads, b_apart, b_state, b_to, b_look, b_begins, b_nullable, b_act, b_built, b_leadTo, b_text, b_fits, b_token, b_stack, b_worth)) (g_productions, g_start, g_sets, g_states, g_conflicts, g_ready, g_length, g_tokens, g_stuck, g_scanned, g_value, g_place, b_term, b_size, b_skipped, b_left, b_right, b_width, b_op, b_constant, b_rank, b_grouping, b_bTerm, b_bSize, b_bSkipped, b_bLeft, b_bWidth, b_bOp, b_bConstant, b_follow, b_ends, b_first, b_last, b_none, b_set, b_leads, b_apart, b_state, b_to, b_look, b_begins, b_nullable, b_act, b_built, b_leadTo, b_text, b_fits, b_token, b_stack, b_worth)))) (g_productions, g_start, g_sets, g_states, g_conflicts, g_ready, g_length, g_tokens, g_stuck, g_scanned, g_value, g_place, b_term, b_size, b_skipped, b_left, b_right, b_width, b_op, b_constant, b_rank, b_grouping, b_bTerm, b_bSize, b_bSkipped, b_bLeft, b_bWidth, b_bOp, b_bConstant, b_follow, b_ends, b_first, b_last, b_none, b_set, b_leads, b_apart, b_state, b_to, b_look, b_begins, b_nullable, b_act, b_built, b_leadTo, b_text, b_fits, b_token, b_stack, b_worth)))) (g_productions, g_start, g_sets, g_states, g_conflicts, g_ready, g_length, g_tokens, g_stuck, g_scanned, g_value, g_place, b_term, b_size, b_skipped, b_left, b_right, b_width, b_op, b_constant, b_rank, b_grouping, b_bTerm, b_bSize, b_bSkipped, b_bLeft, b_bWidth, b_bOp, b_bConstant, b_follow, b_ends, b_first, b_last, b_none, b_set, b_leads, b_apart, b_state, b_to, b_look, b_begins, b_nullable, b_act, b_built, b_leadTo, b_text, b_fits, b_token, b_stack, b_worth))
    (H0 : (¬ ∀ r, r < 4 → wf_ (nv b_term) (8 * r) (nv b_size r)) → post 1 (g_productions, g_start, g_sets, g_states, g_conflicts, g_ready, g_length, g_tokens, g_stuck, g_scanned, g_value, g_place, b_term, b_size, b_skipped, b_left, b_right, b_width, b_op, b_constant, b_rank, b_grouping, b_bTerm, b_bSize, b_bSkipped, b_bLeft, b_bWidth, b_bOp, b_bConstant, b_follow, b_ends, b_first, b_last, b_none, b_set, b_leads, b_apart, b_state, b_to, b_look, b_begins, b_nullable, b_act, b_built, b_leadTo, b_text, b_fits, b_token, b_stack, b_worth)) : wpY_build post (g_productions, g_start, g_sets, g_states, g_conflicts, g_ready, g_length, g_tokens, g_stuck, g_scanned, g_value, g_place, b_term, b_size, b_skipped, b_left, b_right, b_width, b_op, b_constant, b_rank, b_grouping, b_bTerm, b_bSize, b_bSkipped, b_bLeft, b_bWidth, b_bOp, b_bConstant, b_follow, b_ends, b_first, b_last, b_none, b_set, b_leads, b_apart, b_state, b_to, b_look, b_begins, b_nullable, b_act, b_built, b_leadTo, b_text, b_fits, b_token, b_stack, b_worth) := by
  have loop : ∀ d r, r + d = 4 → (∀ q, q < r → wf_ (nv b_term) (8 * q) (nv b_size q)) → wY_build_2 post g_productions g_start g_sets g_states g_conflicts g_ready g_length g_tokens g_stuck g_scanned g_value g_place b_term b_size b_skipped b_left b_right b_width b_op b_constant b_rank b_grouping b_bTerm b_bSize b_bSkipped b_bLeft b_bWidth b_bOp b_bConstant b_follow b_ends b_first b_last b_none b_set b_leads b_apart b_state b_to b_look b_begins b_nullable b_act b_built b_leadTo b_text b_fits b_token b_stack b_worth (d + 1) (nI r) := by
    intro d
    induction d with
    | zero =>
      intro r hr h
      have : r = 4 := by omega
      subst this
      exact pk_le 4 4 (fun _ => H1 h) (fun z => absurd z (by omega))
    | succ d ih =>
      intro r hr h
      refine pk_le 4 r (fun z => absurd z (by omega)) (fun _ => ywl (by omega) hru (fun w => br_f (by decide) (nm_r (nI_1 r) (ih (r + 1) (by omega) (fun q hq => ?_)))) (fun w => br_t rfl (H0 fun y => w (y r (by omega)))))
      by_cases e : q = r
      · subst e; exact w
      · exact h q (by omega)
  exact ⟨5, loop 4 0 (by omega) (fun q hq => absurd hq (Nat.not_lt_zero _))⟩
variable {start0 : Int64} {ends0 fo0 : Nat → Int64} {pc : Nat} {L W : Nat → Nat} {R : Nat → Nat → Nat}
theorem yb_f1 (hru : ru_ok b_term b_size) (hw : rwf (nv b_term) (nv b_size)) (hy0 : yLaid (nv b_term) (nv b_size) 4 start0 ends0 fo0) (hB : bf 61 4 (trY fo0 (nv b_term) start0) (1, vp_updL b_set 0 0, b_leads) 61 = none)
    (H : ∀ (st : Int64) (n : Int32) (fo en fi la : Nat → Int64) (no : Nat → Int32) (se : Nat → Int64) (le : Nat → Int32), post 2 (g_productions, st, n, g_states, g_conflicts, g_ready, g_length, g_tokens, g_stuck, g_scanned, g_value, g_place, b_term, b_size, b_skipped, b_left, b_right, b_width, b_op, b_constant, b_rank, b_grouping, b_bTerm, b_bSize, b_bSkipped, b_bLeft, b_bWidth, b_bOp, b_bConstant, fo, en, fi, la, no, se, le, b_apart, b_state, b_to, b_look, b_begins, b_nullable, b_act, b_built, b_leadTo, b_text, b_fits, b_token, b_stack, b_worth)) : wpY_build post (g_productions, g_start, g_sets, g_states, g_conflicts, g_ready, g_length, g_tokens, g_stuck, g_scanned, g_value, g_place, b_term, b_size, b_skipped, b_left, b_right, b_width, b_op, b_constant, b_rank, b_grouping, b_bTerm, b_bSize, b_bSkipped, b_bLeft, b_bWidth, b_bOp, b_bConstant, b_follow, b_ends, b_first, b_last, b_none, b_set, b_leads, b_apart, b_state, b_to, b_look, b_begins, b_nullable, b_act, b_built, b_leadTo, b_text, b_fits, b_token, b_stack, b_worth) := by
  refine yb_2 hru (fun _ => y_sets hru hw (fun start ends fi la no fo h => ?_)) (fun hno => absurd hw.2.2 hno)
  obtain ⟨e1, e2, e3⟩ := yl_u h hy0
  have et : trY fo (nv b_term) start = trY fo0 (nv b_term) start0 := by rw [e1]; exact tr_cg e3
  refine ⟨fun _ b => ?_, fun b hb => ?_⟩
  · dsimp only
    exact br_t rfl (H _ _ _ _ _ _ _ _ _)
  · rw [et, hB] at hb; exact absurd hb (by simp)
theorem yb_f2 (hru : ru_ok b_term b_size) (hw : rwf (nv b_term) (nv b_size)) (hy0 : yLaid (nv b_term) (nv b_size) 4 start0 ends0 fo0) {b1 : Nat × (Nat → Int64) × (Nat → Int32)} (hB : bf 61 4 (trY fo0 (nv b_term) start0) (1, vp_updL b_set 0 0, b_leads) 61 = some b1)
    (hV : gr_V pc L W R) (hY : gr_Y b_left b_right b_width L W R) (hB2 : bf 40 7 (trS pc L W R) (1, vp_updL b_state 0 (st0 pc L W R), b_to) 40 = none)
    (H : ∀ (st : Int64) (n m : Int32) (fo en fi la : Nat → Int64) (no : Nat → Int32) (se : Nat → Int64) (le : Nat → Int32) (sa : Nat → Int64) (to : Nat → Int32), post 2 (nI pc, st, n, m, g_conflicts, g_ready, g_length, g_tokens, g_stuck, g_scanned, g_value, g_place, b_term, b_size, b_skipped, b_left, b_right, b_width, b_op, b_constant, b_rank, b_grouping, b_bTerm, b_bSize, b_bSkipped, b_bLeft, b_bWidth, b_bOp, b_bConstant, fo, en, fi, la, no, se, le, b_apart, sa, to, b_look, b_begins, b_nullable, b_act, b_built, b_leadTo, b_text, b_fits, b_token, b_stack, b_worth)) : wpY_build post (nI pc, g_start, g_sets, g_states, g_conflicts, g_ready, g_length, g_tokens, g_stuck, g_scanned, g_value, g_place, b_term, b_size, b_skipped, b_left, b_right, b_width, b_op, b_constant, b_rank, b_grouping, b_bTerm, b_bSize, b_bSkipped, b_bLeft, b_bWidth, b_bOp, b_bConstant, b_follow, b_ends, b_first, b_last, b_none, b_set, b_leads, b_apart, b_state, b_to, b_look, b_begins, b_nullable, b_act, b_built, b_leadTo, b_text, b_fits, b_token, b_stack, b_worth) := by
  refine yb_2 hru (fun _ => y_sets hru hw (fun start ends fi la no fo h => ?_)) (fun hno => absurd hw.2.2 hno)
  obtain ⟨e1, e2, e3⟩ := yl_u h hy0
  have et : trY fo (nv b_term) start = trY fo0 (nv b_term) start0 := by rw [e1]; exact tr_cg e3
  refine ⟨fun hb b => ?_, fun b hb => ?_⟩
  · rw [et, hB] at hb; exact absurd hb (by simp)
  · dsimp only
    refine br_f (by decide) (y_states hV hY (fun _ b' => ?_) (fun b' hb' => ?_))
    · dsimp only
      exact br_t rfl (H _ _ _ _ _ _ _ _ _ _ _ _)
    · rw [hB2] at hb'; exact absurd hb' (by simp)
theorem yb_ok (hru : ru_ok b_term b_size) (hw : rwf (nv b_term) (nv b_size)) (hy0 : yLaid (nv b_term) (nv b_size) 4 start0 ends0 fo0) {b1 : Nat × (Nat → Int64) × (Nat → Int32)} (hB : bf 61 4 (trY fo0 (nv b_term) start0) (1, vp_updL b_set 0 0, b_leads) 61 = some b1)
    (hV : gr_V pc L W R) (hY : gr_Y b_left b_right b_width L W R) {b2 : Nat × (Nat → Int64) × (Nat → Int32)} (hB2 : bf 40 7 (trS pc L W R) (1, vp_updL b_state 0 (st0 pc L W R), b_to) 40 = some b2)
    (hH : laH pc b2.1 L W R (itr (rnd L W R pc) 8 (fun _ => 0, fun _ => 0)) b2.2.1 b2.2.2) {N K : Nat}
    (hN1 : ∀ k, k < N → (allL pc L W R (itr (rnd L W R pc) 8 (fun _ => 0, fun _ => 0)) b2.2.1 b2.2.2 b2.1 (laK pc L W R (itr (rnd L W R pc) 8 (fun _ => 0, fun _ => 0)) b2.2.1 b2.2.2 b2.1 k, false)).2 = true) (hN2 : (allL pc L W R (itr (rnd L W R pc) 8 (fun _ => 0, fun _ => 0)) b2.2.1 b2.2.2 b2.1 (laK pc L W R (itr (rnd L W R pc) 8 (fun _ => 0, fun _ => 0)) b2.2.1 b2.2.2 b2.1 N, false)).2 = false)
    (hE : ∀ s p, s < b2.1 → pc ≤ p → p < 8 → bl (b2.2.1 s) (4 * p + W p) = false) (hMq : ∀ s t, s < b2.1 → t < 4 → b2.2.2 (7 * s + t) = -1 ∨ ∃ q, q < 40 ∧ b2.2.2 (7 * s + t) = nI q)
    (hO : stO b1.2.2 b1.1) (h61 : 1 ≤ b1.1 ∧ b1.1 ≤ 61) (hs0 : start0 = 0 ↔ b1.1 = 1) (hK : Nc b1.2.2 (fun s => mtc ends0 (b1.2.1 s) 4 0) b1.1 (K + 1) = Nc b1.2.2 (fun s => mtc ends0 (b1.2.1 s) 4 0) b1.1 K)
    (H : ∀ (st : Int64) (fo en fi la : Nat → Int64) (no yb ny lo ac lt ap bT bS bSk bL bW bO bC : Nat → Int32),
      (∀ k, k < 5 * b2.1 → ac k = (actO W R b2.2.1 b2.2.2 (laK pc L W R (itr (rnd L W R pc) 8 (fun _ => 0, fun _ => 0)) b2.2.1 b2.2.2 b2.1 (N + 1)) b_rank b_grouping (k / 5) (k % 5)).2.1) → (∀ j, j < 7 * b2.1 → lt j = b2.2.2 j) →
      (∀ k, (k < 32 → bT k = b_term k) ∧ (32 ≤ k → bT k = b_bTerm k)) → (∀ r, (r < 4 → bS r = b_size r) ∧ (4 ≤ r → bS r = b_bSize r)) → (∀ r, r < 4 → bSk r = vp_nar .boolean (b_skipped r)) → (∀ p, p < 8 → bL p = b_left p ∧ bW p = b_width p ∧ bO p = b_op p ∧ bC p = b_constant p) →
      post 0 (nI pc, st, nI b1.1, nI b2.1, nI (cfT (fun s t => (actO W R b2.2.1 b2.2.2 (laK pc L W R (itr (rnd L W R pc) 8 (fun _ => 0, fun _ => 0)) b2.2.1 b2.2.2 b2.1 (N + 1)) b_rank b_grouping s t).2.2) (5 * b2.1)), 1, g_length, g_tokens, g_stuck, 0, g_value, g_place, b_term, b_size, b_skipped, b_left, b_right, b_width, b_op, b_constant, b_rank, b_grouping, bT, bS, bSk, bL, bW, bO, bC, fo, en, fi, la, no, b1.2.1, b1.2.2, ap, b2.2.1, b2.2.2, lo, yb, ny, ac, upd (upd (upd (upd b_built 0 (nI b1.1 - 1)) 1 (nI (if b1.1 = 1 then 0 else Nc b1.2.2 (fun s => mtc ends0 (b1.2.1 s) 4 0) b1.1 K))) 2 (nI b2.1)) 3 (nI (cfT (fun s t => (actO W R b2.2.1 b2.2.2 (laK pc L W R (itr (rnd L W R pc) 8 (fun _ => 0, fun _ => 0)) b2.2.1 b2.2.2 b2.1 (N + 1)) b_rank b_grouping s t).2.2) (5 * b2.1))), lt, b_text, b_fits, b_token, b_stack, b_worth)) :
    wpY_build post (nI pc, g_start, g_sets, g_states, g_conflicts, g_ready, g_length, g_tokens, g_stuck, g_scanned, g_value, g_place, b_term, b_size, b_skipped, b_left, b_right, b_width, b_op, b_constant, b_rank, b_grouping, b_bTerm, b_bSize, b_bSkipped, b_bLeft, b_bWidth, b_bOp, b_bConstant, b_follow, b_ends, b_first, b_last, b_none, b_set, b_leads, b_apart, b_state, b_to, b_look, b_begins, b_nullable, b_act, b_built, b_leadTo, b_text, b_fits, b_token, b_stack, b_worth) := by
  have hns := hH.2.2.1
  refine yb_2 hru (fun _ => y_sets hru hw (fun start ends fi la no fo h => ?_)) (fun hno => absurd hw.2.2 hno)
  obtain ⟨e1, e2, e3⟩ := yl_u h hy0
  have et : trY fo (nv b_term) start = trY fo0 (nv b_term) start0 := by rw [e1]; exact tr_cg e3
  have em : (fun s => mtc ends (b1.2.1 s) 4 0) = (fun s => mtc ends0 (b1.2.1 s) 4 0) := by funext s; exact mtc_cg e2
  refine ⟨fun hb b => ?_, fun b hb => ?_⟩
  · rw [et, hB] at hb; exact absurd hb (by simp)
  rw [et, hB] at hb
  have eb : b1 = b := by simpa using hb
  subst eb
  dsimp only
  refine br_f (by decide) (y_states hV hY (fun hb' b' => ?_) (fun b' hb' => ?_))
  · rw [hB2] at hb'; exact absurd hb' (by simp)
  rw [hB2] at hb'
  have eb : b2 = b' := by simpa using hb'
  subst eb
  dsimp only
  refine br_f (by decide) (y_begins hV hY (fun yb ny hyr => ?_))
  dsimp only
  refine y_look (b_begins := yb) (b_nullable := ny) (b_state := b2.2.1) (b_to := b2.2.2) hH hY hyr hN1 hN2 (fun lo hlo => ⟨5 * b2.1 + 1, ?_⟩)
  refine ybu_54 (b_state := b2.2.1) (b_to := b2.2.2) (b_look := lo) (ns := b2.1) hns hV hY hlo hE hMq (fun ac hac => ?_) (5 * b2.1) 0 b_act (by omega) (fun j hj => absurd hj (Nat.not_lt_zero _))
  refine y_88 (c := b1.1) (ns := b2.1) (cc := if b1.1 = 1 then 0 else Nc b1.2.2 (fun s => mtc ends0 (b1.2.1 s) 4 0) b1.1 K) hns (fun Q lt hQ => ?_) (fun lt ap hlt => y_tail (fun bT bS bSk bL bW bO bC t1 t2 t3 t4 => H start fo ends fi la no yb ny lo ac lt ap bT bS bSk bL bW bO bC hac hlt t1 t2 t3 t4))
  refine y_classes (b_set := b1.2.1) (b_leads := b1.2.2) (b_ends := ends) (g_start := start) (c := b1.1) (K := K) h61.1 h61.2 hO (by rw [e1]; exact hs0) (by rw [em]; exact hK) (fun ap => ?_)
  rw [em]
  exact hQ ap
end
end
section
/-! build -/
theorem i_vc_build {k : Nat} {u : SX} {v : SY} (I : i_Rel k u v) (hk : k + 5 ≤ 2560) : wpX_build (fun r u' => wpY_build (fun r' v' => r' = r ∧ i_Rel (k + 5) u' v') v) u := by
  obtain ⟨f_productionCount, f_textLength, f_anythingBuilt, f_tokenCount, f_parseValue, f_parsePlace, a_ruleTerms, a_ruleLengths, a_skips, a_grammar, a_ranks, a_groupings, a_text, a_heads, a_tails, a_empties, a_placeLetters, a_followers, a_ruleEnds, a_sets, a_steps, a_classes, a_finerClasses, a_states, a_moves, a_begins, a_lookaheads, a_builtCounts, a_builtSteps, a_builtMatches, a_builtSkips, a_builtGrammar, a_builtMoves, a_builtActions, a_tokenRules, a_tokenBegins, a_tokenEnds, a_stackStates, a_stackValues⟩ := u
  obtain ⟨g_productions, g_start, g_sets, g_states, g_conflicts, g_ready, g_length, g_tokens, g_stuck, g_scanned, g_value, g_place, b_term, b_size, b_skipped, b_left, b_right, b_width, b_op, b_constant, b_rank, b_grouping, b_bTerm, b_bSize, b_bSkipped, b_bLeft, b_bWidth, b_bOp, b_bConstant, b_follow, b_ends, b_first, b_last, b_none, b_set, b_leads, b_apart, b_state, b_to, b_look, b_begins, b_nullable, b_act, b_built, b_leadTo, b_text, b_fits, b_token, b_stack, b_worth⟩ := v
  have I0 := I
  obtain ⟨rfl, rfl, rfl, rfl, rfl, rfl, rfl, rfl, ⟨hru, hrub⟩, hg, ht, hb⟩ := I
  obtain ⟨pc, L, W, R, rfl, rfl, hV, hX, hY, hOp⟩ := hg
  have hg : rg (nI pc) (nI pc) a_grammar b_left b_right b_width b_op b_constant := ⟨pc, L, W, R, rfl, rfl, hV, hX, hY, hOp⟩
  have nT : ∀ k, nv a_ruleTerms k < 10 := fun k => by
    obtain ⟨t, ht, e⟩ := hru.1 k
    unfold nv; rw [e, nI_clamp (by omega)]; exact ht
  have nS : ∀ r, nv a_ruleLengths r ≤ 8 := fun r => by
    obtain ⟨t, ht, e⟩ := hru.2 r
    unfold nv; rw [e, nI_clamp (by omega)]; exact ht
  unfold wpX_build
  dsimp only
  refine xfit hru (fun hwf => ?_) (fun hno => br_t rfl (yb_2 hru (fun h => absurd h hno) (fun _ => ⟨rfl, I0⟩)))
  have hw : rwf (nv a_ruleTerms) (nv a_ruleLengths) := ⟨nT, nS, hwf⟩
  have hyc := yl_can hw
  generalize mkI (sta (nv a_ruleTerms) (nv a_ruleLengths) 4) 32 = start0 at hyc
  generalize (fun r => mkI (TR (nv a_ruleTerms) (nv a_ruleLengths) r) 32) = ends0 at hyc
  generalize (fun p => mkI (gG (nv a_ruleTerms) (nv a_ruleLengths) 4 p) 32) = fo0 at hyc
  refine br_f (by decide) (x_lay hru hw (fun he ta em pl fo re hx => ?_))
  dsimp only
  refine x_sets hw hx hyc (G0 := vp_updL b_set 0 0) (M0 := b_leads) ul_s (fun hB1 sx mx => ?_) (fun b1 sx mx hB1 hSR => ?_)
  · dsimp only
    refine x_states hV hX (G0 := vp_updL b_state 0 (st0 pc L W R)) (M0 := b_to) ul_s (fun hB2 sx2 mx2 => ?_) (fun b2 sx2 mx2 hB2 hSS => ?_)
    · dsimp only
      exact br_t rfl (yb_f1 hru hw hyc hB1 (fun st n fo en fi la no se le => ⟨rfl, rl_mk rfl rfl rfl rfl rfl rfl rfl rfl ⟨hru, hrub⟩ hg ht hb⟩))
    · dsimp only
      exact br_t rfl (yb_f1 hru hw hyc hB1 (fun st n fo en fi la no se le => ⟨rfl, rl_mk rfl rfl rfl rfl rfl rfl rfl rfl ⟨hru, hrub⟩ hg ht hb⟩))
  dsimp only
  obtain ⟨⟨i1, i2, i3, i4⟩, i5⟩ := bf_i (b0 := (1, vp_updL b_set 0 0, b_leads)) rfl (by omega) 61 b1 hB1
  refine x_states hV hX (G0 := vp_updL b_state 0 (st0 pc L W R)) (M0 := b_to) ul_s (fun hB2 sx2 mx2 => ?_) (fun b2 sx2 mx2 hB2 hSS => ?_)
  · dsimp only
    exact br_f (zn_ne1 (by omega)) (br_t rfl (yb_f2 hru hw hyc hB1 hV hY hB2 (fun st n m fo en fi la no se le sa to => ⟨rfl, rl_mk rfl rfl rfl rfl rfl rfl rfl rfl ⟨hru, hrub⟩ hg ht hb⟩)))
  dsimp only
  obtain ⟨s1, s2, s3, s34, sMv, sT, sC, sz0, s32, sE⟩ := st_f hV (b0 := (1, vp_updL b_state 0 (st0 pc L W R), b_to)) rfl (show vp_updL b_state 0 (st0 pc L W R) 0 = _ from ul_s) hB2
  have hz : LW (fun _ => 0, fun _ => 0) := fun n _ => ⟨low_0, Or.inl rfl⟩
  have hH : laH pc b2.1 L W R (itr (rnd L W R pc) 8 (fun _ => 0, fun _ => 0)) b2.2.1 b2.2.2 := ⟨hV, LW_i hz hV 8, s2, s34, sT⟩
  obtain ⟨N, hN, hN1, hN2⟩ := la_end hH
  have hO : stO b1.2.2 b1.1 := by
    intro s l hs hl
    rcases i3 s l hs hl (Or.inl (by omega)) with z | ⟨_, k, z2, _, z4⟩
    · exact Or.inl z.2
    · exact Or.inr ⟨k, z2, z4⟩
  have hs0 := start_1 hw hyc (b0 := (1, vp_updL b_set 0 0, b_leads)) rfl (show vp_updL b_set 0 0 0 = 0 from ul_s) hB1
  obtain ⟨K, K1, K61, hK, hKL⟩ := Nc_end (st := b1.2.2) (mt := fun s => mtc ends0 (b1.2.1 s) 4 0) i1 i2
  obtain ⟨q1, q2, q3, q4⟩ := hSR
  have hM : ∀ s x, s < b2.1 → sym x → mx2 (13 * s + x) = b2.2.2 (7 * s + col x) := fun s x hs hx => (hSS.2 s x (by rcases hx with z | z <;> omega) (Or.inl hs)).1 hx
  have hM4 : ∀ s, s < b2.1 → mx2 (13 * s + 4) = -1 := fun s hs => (hSS.2 s 4 (by omega) (Or.inl hs)).2 (by unfold sym; omega)
  have hMq : ∀ s x, s < b2.1 → sym x → b2.2.2 (7 * s + col x) = -1 ∨ ∃ q, q < b2.1 ∧ b2.2.2 (7 * s + col x) = nI q := by
    intro s x hs hx
    rcases sMv s x hs hx with z | ⟨t, _, z2, z3, _⟩
    · exact Or.inl z
    · exact Or.inr ⟨t, z2, z3⟩
  refine br_f (zn_ne1 (by omega)) (br_f (zn_ne1 (by omega)) (x_keepS (a_sets := sx) (a_ruleEnds := re) (c := b1.1) (en := ends0) (w := b1.2.1) i2 (fun s hs r hr => ends_i hw hx hyc ?_ hr) (fun bm bst bsk h1 h2 h3 => ?_)))
  · by_cases e : s = 0
    · subst e; exact Or.inl ⟨q1, q2⟩
    · exact Or.inr (q3 s (by omega) hs)
  dsimp only
  refine nm_e ?_
  have cls : ∀ (Q : Int32 → SX → Prop), (∀ cl fi : Nat → Int32, Q (nI (if b1.1 = 1 then 0 else Nc b1.2.2 (fun s => mtc ends0 (b1.2.1 s) 4 0) b1.1 K)) (nI pc, f_textLength, f_anythingBuilt, f_tokenCount, f_parseValue, f_parsePlace, a_ruleTerms, a_ruleLengths, a_skips, a_grammar, a_ranks, a_groupings, a_text, he, ta, em, pl, fo, re, sx, mx, cl, fi, sx2, mx2, a_begins, a_lookaheads, upd a_builtCounts 0 (nI b1.1 - 1), bst, bm, bsk, a_builtGrammar, a_builtMoves, a_builtActions, a_tokenRules, a_tokenBegins, a_tokenEnds, a_stackStates, a_stackValues)) →
      wpX_countClasses Q (nI pc, f_textLength, f_anythingBuilt, f_tokenCount, f_parseValue, f_parsePlace, a_ruleTerms, a_ruleLengths, a_skips, a_grammar, a_ranks, a_groupings, a_text, he, ta, em, pl, fo, re, sx, mx, a_classes, a_finerClasses, sx2, mx2, a_begins, a_lookaheads, upd a_builtCounts 0 (nI b1.1 - 1), bst, bm, bsk, a_builtGrammar, a_builtMoves, a_builtActions, a_tokenRules, a_tokenBegins, a_tokenEnds, a_stackStates, a_stackValues) (nI b1.1) := by
    intro Q hQ
    by_cases c1 : b1.1 = 1
    · have h' := hQ a_classes a_finerClasses
      rw [if_pos c1] at h'
      exact br_t (by rw [c1]; rfl) h'
    · have h' := hQ
      rw [if_neg c1] at h'
      exact xcc (a_steps := mx) (a_builtMatches := bm) (c := b1.1) (by omega) i2 hO q4 h1 K1 K61 hK hKL h'
  refine cls _ (fun cl fi => ?_)
  dsimp only
  refine nm_e (x_begins hV hX (fun xb hxb => ?_))
  dsimp only
  refine x_look (a_moves := mx2) (a_states := sx2) (a_begins := xb) hH hX hxb hM hSS.1 hN hN1 hN2 (fun lo hlo => ?_)
  dsimp only
  refine x_keepP (fun bmv bgr k1 k2 => ?_)
  dsimp only
  refine nm_e (xka (a_moves := mx2) (a_states := sx2) (a_lookaheads := lo) (ns := b2.1) s2 hV hX hSS.1 hlo hM hM4 (fun ac hac => ?_))
  dsimp only
  refine nm_e ?_
  refine yb_ok hru hw hyc hB1 hV hY hB2 hH hN1 hN2 sE (fun s t hs ht => ?_) hO ⟨i1, i2⟩ hs0 hK (fun st fo' en fi' la no yb ny lo' ac' lt ap bT bS bSk bL bW bO bC w1 w2 w3 w4 w5 w6 => ⟨rfl, rl_mk rfl rfl rfl rfl rfl rfl rfl rfl ⟨hru, ?_⟩ hg ht (Or.inr ⟨rfl, rfl, fun r hr => ?_, fun r hr => ?_, ?_, ?_, Or.inl rfl⟩)⟩)
  · have := hMq s t hs (Or.inl ht)
    unfold col at this
    rw [if_pos ht] at this
    rcases this with z | ⟨q, z1, z2⟩
    · exact Or.inl z
    · exact Or.inr ⟨q, by omega, z2⟩
  · refine ⟨fun k => ?_, fun r => ?_⟩
    · by_cases c : k < 32
      · rw [(w3 k).1 c]; exact hru.1 k
      · rw [(w3 k).2 (by omega)]; exact hrub.1 k
    · by_cases c : r < 4
      · rw [(w4 r).1 c]; exact hru.2 r
      · rw [(w4 r).2 (by omega)]; exact hrub.2 r
  · have : r = 0 ∨ r = 1 ∨ r = 2 ∨ r = 3 := by omega
    rcases this with rfl | rfl | rfl | rfl
    · rfl
    · rfl
    · rfl
    · rfl
  · rw [w5 r hr, h3 r hr]
  · refine sc_mk hw hyc (b0 := (1, vp_updL b_set 0 0, b_leads)) rfl (show vp_updL b_set 0 0 0 = 0 from ul_s) hB1 (fun j hj => ?_) h1 ?_ (fun k hk => ?_) (fun r hr => ?_)
    · rw [h2 j (by omega)]; exact q4 j hj
    · refine ⟨fun k => ?_, fun r => ?_⟩
      · by_cases c : k < 32
        · rw [(w3 k).1 c]; exact hru.1 k
        · rw [(w3 k).2 (by omega)]; exact hrub.1 k
      · by_cases c : r < 4
        · rw [(w4 r).1 c]; exact hru.2 r
        · rw [(w4 r).2 (by omega)]; exact hrub.2 r
    · unfold nv; rw [(w3 k).1 hk]
    · unfold nv; rw [(w4 r).1 hr]
  · refine ⟨b2.1, fun s j => bl (b2.2.1 s) j, L, W, s1, s2, fun p => ⟨(hV.2.1 p).2.1, (hV.2.1 p).1⟩, fun p hp => ?_, fun s x hs hx => ?_, fun s p hs hp hS => ?_, sz0, s32, fun s t hs ht => ?_⟩
    · obtain ⟨x1, x2, -⟩ := hX p (by omega)
      obtain ⟨y1, y2, -⟩ := hY p (by omega)
      obtain ⟨o1, o2, o3⟩ := hOp p hp
      obtain ⟨v1, v2, v3, v4⟩ := w6 p hp
      rw [k2 _ (by omega), k2 _ (by omega), k2 _ (by omega), k2 _ (by omega), v1, v2, v3, v4]
      exact ⟨x1, x2, y1, y2, o1, o2, o3⟩
    · have hx13 : x < 13 := by rcases hx with z | z <;> omega
      have hc7 := (col_s hx).1
      rw [k1 _ (by omega), hM s x hs hx, w2 _ (by omega)]
      rcases sMv s x hs hx with z | ⟨t, z1, z2, z3, z4⟩
      · exact Or.inl ⟨z, z⟩
      · exact Or.inr ⟨t, z1, z2, z3, z3, z4⟩
    · obtain ⟨p1, p2⟩ := sC s p hs hp hS
      have hL := hV.2.2.1 p p1
      refine ⟨hL, ?_⟩
      rw [k1 _ (by omega), hM s (L p) hs (Or.inr hL)]
      exact p2
    · have e1 : (5 * s + t) / 5 = s := by omega
      have e2 : (5 * s + t) % 5 = t := by omega
      rw [hac _ (by omega), w1 _ (by omega), e1, e2]
      refine ac_mk hV s2 hs ht (fun x hx => ?_) (fun x hx => hMq s x hs hx)
      have hx13 : x < 13 := by rcases hx with z | z <;> omega
      rw [k1 _ (by omega)]
      exact hM s x hs hx
end
section
/-! the end -/
theorem zz_end : True := trivial
end
