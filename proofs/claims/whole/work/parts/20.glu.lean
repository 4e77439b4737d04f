/-! places: an expression's heads, tails and followers read just what it stands for -/
def ub (F : Nat → Nat → Bool) (d : Nat) (A : Nat → Bool) : Nat → Nat → Bool := fun e => if e = d then A else F e
def ue (E : Nat → Bool) (d : Nat) (x : Bool) : Nat → Bool := fun e => if e = d then x else E e
/-- one term, on heads, tails, empties and followers -/
def gst (t c d : Nat) (s : (Nat → Nat → Bool) × (Nat → Nat → Bool) × (Nat → Bool) × (Nat → Nat → Bool)) : (Nat → Nat → Bool) × (Nat → Nat → Bool) × (Nat → Bool) × (Nat → Nat → Bool) :=
  if t < 5 then (ub s.1 d (fun q => q == c), ub s.2.1 d (fun q => q == c), ue s.2.2.1 d false, s.2.2.2)
  else if t = 5 then (ub s.1 (d - 2) (fun q => s.1 (d - 2) q || (s.2.2.1 (d - 2) && s.1 (d - 1) q)), ub s.2.1 (d - 2) (fun q => s.2.1 (d - 1) q || (s.2.2.1 (d - 1) && s.2.1 (d - 2) q)), ue s.2.2.1 (d - 2) (s.2.2.1 (d - 2) && s.2.2.1 (d - 1)), fun p q => s.2.2.2 p q || (s.2.1 (d - 2) p && s.1 (d - 1) q))
  else if t = 6 then (ub s.1 (d - 2) (fun q => s.1 (d - 2) q || s.1 (d - 1) q), ub s.2.1 (d - 2) (fun q => s.2.1 (d - 2) q || s.2.1 (d - 1) q), ue s.2.2.1 (d - 2) (s.2.2.1 (d - 2) || s.2.2.1 (d - 1)), s.2.2.2)
  else if t = 7 then (s.1, s.2.1, ue s.2.2.1 (d - 1) true, fun p q => s.2.2.2 p q || (s.2.1 (d - 1) p && s.1 (d - 1) q))
  else if t = 8 then (s.1, s.2.1, s.2.2.1, fun p q => s.2.2.2 p q || (s.2.1 (d - 1) p && s.1 (d - 1) q))
  else (s.1, s.2.1, ue s.2.2.1 (d - 1) true, s.2.2.2)
def gl (tm : Nat → Nat) (b : Nat) (G0 : Nat → Nat → Bool) : Nat → (Nat → Nat → Bool) × (Nat → Nat → Bool) × (Nat → Bool) × (Nat → Nat → Bool)
  | 0 => (fun _ _ => false, fun _ _ => false, fun _ => false, G0)
  | k + 1 => gst (tm (b + k)) (b + k) (dp tm b k) (gl tm b G0 k)
def gG (tm sz : Nat → Nat) : Nat → Nat → Nat → Bool
  | 0 => fun _ _ => false
  | r + 1 => (gl tm (8 * r) (gG tm sz r) (sz r)).2.2.2
/-- the places that are reached behind m + 1 letters from i on -/
def Rn (G : Nat → Nat → Bool) (F : Nat → Bool) (rd : Nat → Nat → Prop) (i : Nat) : Nat → Nat → Prop
  | 0 => fun q => F q = true ∧ rd q i
  | m + 1 => fun q => ∃ p, Rn G F rd i m p ∧ G p q = true ∧ rd q (i + m + 1)
def gok (rd : Nat → Nat → Prop) (lo hi : Nat) (F T : Nat → Bool) (E : Bool) (G : Nat → Nat → Bool) (A : Nat → Nat → Prop) : Prop :=
  (∀ q, F q = true → lo ≤ q ∧ q < hi) ∧ (∀ q, T q = true → lo ≤ q ∧ q < hi) ∧ (∀ p q, lo ≤ p → p < hi → G p q = true → lo ≤ q ∧ q < hi) ∧
  (∀ i, A i i ↔ E = true) ∧ (∀ i j, A i j → i ≤ j) ∧ ∀ i m, (∃ q, Rn G F rd i m q ∧ T q = true) ↔ A i (i + m + 1)
theorem rn_in {G : Nat → Nat → Bool} {F : Nat → Bool} {rd : Nat → Nat → Prop} {lo hi : Nat} (hF : ∀ q, F q = true → lo ≤ q ∧ q < hi) (hG : ∀ p q, lo ≤ p → p < hi → G p q = true → lo ≤ q ∧ q < hi) {i : Nat} : ∀ m q, Rn G F rd i m q → lo ≤ q ∧ q < hi
  | 0, q, h => hF q h.1
  | m + 1, q, ⟨p, h1, h2, _⟩ => hG p q (rn_in hF hG m p h1).1 (rn_in hF hG m p h1).2 h2
theorem rn_loc {G G' : Nat → Nat → Bool} {F : Nat → Bool} {rd : Nat → Nat → Prop} {lo hi : Nat} (hF : ∀ q, F q = true → lo ≤ q ∧ q < hi) (hG : ∀ p q, lo ≤ p → p < hi → G p q = true → lo ≤ q ∧ q < hi) (hE : ∀ p q, lo ≤ p → p < hi → G p q = G' p q) {i : Nat} : ∀ m q, Rn G F rd i m q ↔ Rn G' F rd i m q
  | 0, q => Iff.rfl
  | m + 1, q => by
    constructor
    · rintro ⟨p, h1, h2, h3⟩
      have := rn_in hF hG m p h1
      exact ⟨p, (rn_loc hF hG hE m p).mp h1, by rw [← hE p q this.1 this.2]; exact h2, h3⟩
    · rintro ⟨p, h1, h2, h3⟩
      have h1' := (rn_loc hF hG hE m p).mpr h1
      have := rn_in hF hG m p h1'
      exact ⟨p, h1', by rw [hE p q this.1 this.2]; exact h2, h3⟩
theorem gok_loc {rd : Nat → Nat → Prop} {lo hi : Nat} {F T : Nat → Bool} {E : Bool} {G G' : Nat → Nat → Bool} {A : Nat → Nat → Prop} (h : gok rd lo hi F T E G A) (hE : ∀ p q, lo ≤ p → p < hi → G p q = G' p q) : gok rd lo hi F T E G' A := by
  obtain ⟨h1, h2, h3, h4, h5, h6⟩ := h
  refine ⟨h1, h2, fun p q a b c => h3 p q a b (by rw [hE p q a b]; exact c), h4, h5, fun i m => ?_⟩
  rw [← h6 i m]
  exact ⟨fun ⟨q, a, b⟩ => ⟨q, (rn_loc h1 h3 hE m q).mpr a, b⟩, fun ⟨q, a, b⟩ => ⟨q, (rn_loc h1 h3 hE m q).mp a, b⟩⟩
theorem gok_let {rd : Nat → Nat → Prop} {c : Nat} {G : Nat → Nat → Bool} {B : Nat → Prop} (hG : ∀ q, G c q = false) (hr : ∀ i, rd c i ↔ B i) :
    gok rd c (c + 1) (fun q => q == c) (fun q => q == c) false G (fun i j => j = i + 1 ∧ B i) := by
  refine ⟨fun q h => ?_, fun q h => ?_, fun p q a b h => ?_, fun i => ?_, fun i j h => by omega, fun i m => ?_⟩
  · have : q = c := by simpa using h
    omega
  · have : q = c := by simpa using h
    omega
  · have : p = c := by omega
    subst this
    rw [hG q] at h; exact absurd h (by decide)
  · exact ⟨fun h => by omega, fun h => absurd h (by decide)⟩
  · cases m with
    | zero =>
      constructor
      · rintro ⟨q, ⟨a, b⟩, _⟩
        have : q = c := by simpa using a
        subst this
        exact ⟨rfl, (hr i).mp b⟩
      · rintro ⟨_, b⟩
        exact ⟨c, ⟨by simp, (hr i).mpr b⟩, by simp⟩
    | succ m =>
      constructor
      · rintro ⟨q, ⟨p, a, b, _⟩, _⟩
        have k1 : ∀ q, (fun q => q == c) q = true → c ≤ q ∧ q < c + 1 := by
          intro q h
          have : q = c := by simpa using h
          omega
        have k2 : ∀ p q, c ≤ p → p < c + 1 → G p q = true → c ≤ q ∧ q < c + 1 := by
          intro p q a b h
          have : p = c := by omega
          subst this
          rw [hG q] at h; exact absurd h (by decide)
        have := rn_in (lo := c) (hi := c + 1) k1 k2 m p a
        have : p = c := by omega
        subst this
        rw [hG q] at b; exact absurd b (by decide)
      · rintro ⟨a, _⟩; omega
theorem rn_or {G : Nat → Nat → Bool} {F1 F2 : Nat → Bool} {rd : Nat → Nat → Prop} {i : Nat} : ∀ m q, Rn G (fun q => F1 q || F2 q) rd i m q ↔ (Rn G F1 rd i m q ∨ Rn G F2 rd i m q)
  | 0, q => by
    show ((F1 q || F2 q) = true ∧ _) ↔ _
    rw [Bool.or_eq_true]
    exact ⟨fun ⟨a, b⟩ => a.imp (fun z => ⟨z, b⟩) (fun z => ⟨z, b⟩), fun h => h.elim (fun z => ⟨Or.inl z.1, z.2⟩) (fun z => ⟨Or.inr z.1, z.2⟩)⟩
  | m + 1, q => by
    constructor
    · rintro ⟨p, a, b, c⟩
      exact ((rn_or m p).mp a).imp (fun z => ⟨p, z, b, c⟩) (fun z => ⟨p, z, b, c⟩)
    · rintro (⟨p, a, b, c⟩ | ⟨p, a, b, c⟩)
      · exact ⟨p, (rn_or m p).mpr (Or.inl a), b, c⟩
      · exact ⟨p, (rn_or m p).mpr (Or.inr a), b, c⟩
theorem gok_or {rd : Nat → Nat → Prop} {lo mi hi : Nat} {F1 F2 T1 T2 : Nat → Bool} {E1 E2 : Bool} {G : Nat → Nat → Bool} {A1 A2 : Nat → Nat → Prop} (hl : lo ≤ mi) (hh : mi ≤ hi) (h1 : gok rd lo mi F1 T1 E1 G A1) (h2 : gok rd mi hi F2 T2 E2 G A2) :
    gok rd lo hi (fun q => F1 q || F2 q) (fun q => T1 q || T2 q) (E1 || E2) G (fun i j => A1 i j ∨ A2 i j) := by
  obtain ⟨a1, a2, a3, a4, a5, a6⟩ := h1
  obtain ⟨b1, b2, b3, b4, b5, b6⟩ := h2
  refine ⟨fun q h => ?_, fun q h => ?_, fun p q x y h => ?_, fun i => ?_, fun i j h => h.elim (a5 i j) (b5 i j), fun i m => ?_⟩
  · rcases Bool.or_eq_true _ _ ▸ h with z | z
    · have := a1 q z; omega
    · have := b1 q z; omega
  · rcases Bool.or_eq_true _ _ ▸ h with z | z
    · have := a2 q z; omega
    · have := b2 q z; omega
  · rcases Nat.lt_or_ge p mi with z | z
    · have := a3 p q x z h; omega
    · have := b3 p q z y h; omega
  · dsimp only; rw [a4, b4, Bool.or_eq_true]
  · dsimp only; rw [← a6, ← b6]
    constructor
    · rintro ⟨q, a, b⟩
      rw [rn_or] at a
      rw [Bool.or_eq_true] at b
      rcases a with a | a
      · have i1 := rn_in a1 a3 m q a
        rcases b with b | b
        · exact Or.inl ⟨q, a, b⟩
        · have := b2 q b; omega
      · have i1 := rn_in b1 b3 m q a
        rcases b with b | b
        · have := a2 q b; omega
        · exact Or.inr ⟨q, a, b⟩
    · rintro (⟨q, a, b⟩ | ⟨q, a, b⟩)
      · exact ⟨q, (rn_or m q).mpr (Or.inl a), by rw [b, Bool.true_or]⟩
      · exact ⟨q, (rn_or m q).mpr (Or.inr a), by rw [b, Bool.or_true]⟩
/-- a chain: first the one, then the other -/
theorem rn_th {G : Nat → Nat → Bool} {F1 F2 T1 : Nat → Bool} {E1 : Bool} {rd : Nat → Nat → Prop} {lo mi hi : Nat} (hF1 : ∀ q, F1 q = true → lo ≤ q ∧ q < mi) (hT1 : ∀ q, T1 q = true → lo ≤ q ∧ q < mi) (hG1 : ∀ p q, lo ≤ p → p < mi → G p q = true → lo ≤ q ∧ q < mi)
    (hF2 : ∀ q, F2 q = true → mi ≤ q ∧ q < hi) (hG2 : ∀ p q, mi ≤ p → p < hi → G p q = true → mi ≤ q ∧ q < hi) {i : Nat} :
    ∀ m q, Rn (fun p q => G p q || (T1 p && F2 q)) (fun q => F1 q || (E1 && F2 q)) rd i m q ↔
      (Rn G F1 rd i m q ∨ (E1 = true ∧ Rn G F2 rd i m q) ∨ ∃ n, n < m ∧ (∃ p, Rn G F1 rd i n p ∧ T1 p = true) ∧ Rn G F2 rd (i + n + 1) (m - n - 1) q)
  | 0, q => by
    show ((F1 q || (E1 && F2 q)) = true ∧ rd q i) ↔ _
    rw [Bool.or_eq_true, Bool.and_eq_true]
    constructor
    · rintro ⟨a | ⟨a, b⟩, c⟩
      · exact Or.inl ⟨a, c⟩
      · exact Or.inr (Or.inl ⟨a, b, c⟩)
    · rintro (⟨a, c⟩ | ⟨a, b, c⟩ | ⟨n, a, _⟩)
      · exact ⟨Or.inl a, c⟩
      · exact ⟨Or.inr ⟨a, b⟩, c⟩
      · omega
  | m + 1, q => by
    constructor
    · rintro ⟨p, a, b, c⟩
      rw [Bool.or_eq_true, Bool.and_eq_true] at b
      rcases (rn_th hF1 hT1 hG1 hF2 hG2 m p).mp a with a | ⟨e, a⟩ | ⟨n, hn, ⟨p', a1, a2⟩, a⟩
      · rcases b with b | ⟨b1, b2⟩
        · exact Or.inl ⟨p, a, b, c⟩
        · refine Or.inr (Or.inr ⟨m, by omega, ⟨p, a, b1⟩, ?_⟩)
          rw [show m + 1 - m - 1 = 0 by omega]
          exact ⟨b2, c⟩
      · have hp := rn_in hF2 hG2 m p a
        rcases b with b | ⟨b1, b2⟩
        · exact Or.inr (Or.inl ⟨e, p, a, b, c⟩)
        · have := hT1 p b1; omega
      · have hp := rn_in hF2 hG2 _ p a
        rcases b with b | ⟨b1, b2⟩
        · refine Or.inr (Or.inr ⟨n, by omega, ⟨p', a1, a2⟩, ?_⟩)
          rw [show m + 1 - n - 1 = (m - n - 1) + 1 by omega]
          exact ⟨p, a, b, by rw [show i + n + 1 + (m - n - 1) + 1 = i + m + 1 by omega]; exact c⟩
        · have := hT1 p b1; omega
    · rintro (⟨p, a, b, c⟩ | ⟨e, p, a, b, c⟩ | ⟨n, hn, ⟨p', a1, a2⟩, a⟩)
      · exact ⟨p, (rn_th hF1 hT1 hG1 hF2 hG2 m p).mpr (Or.inl a), by dsimp only; rw [b, Bool.true_or], c⟩
      · exact ⟨p, (rn_th hF1 hT1 hG1 hF2 hG2 m p).mpr (Or.inr (Or.inl ⟨e, a⟩)), by dsimp only; rw [b, Bool.true_or], c⟩
      · rcases Nat.lt_or_ge n m with z | z
        · rw [show m + 1 - n - 1 = (m - n - 1) + 1 by omega] at a
          obtain ⟨p, b1, b2, b3⟩ := a
          rw [show i + n + 1 + (m - n - 1) + 1 = i + m + 1 by omega] at b3
          exact ⟨p, (rn_th hF1 hT1 hG1 hF2 hG2 m p).mpr (Or.inr (Or.inr ⟨n, z, ⟨p', a1, a2⟩, b1⟩)), by dsimp only; rw [b2, Bool.true_or], b3⟩
        · have e : n = m := by omega
          subst e
          rw [show n + 1 - n - 1 = 0 by omega] at a
          obtain ⟨b1, b2⟩ := a
          exact ⟨p', (rn_th hF1 hT1 hG1 hF2 hG2 n p').mpr (Or.inl a1), by dsimp only; rw [a2, b1]; simp, b2⟩
theorem gok_th {rd : Nat → Nat → Prop} {lo mi hi : Nat} {F1 F2 T1 T2 : Nat → Bool} {E1 E2 : Bool} {G : Nat → Nat → Bool} {A1 A2 : Nat → Nat → Prop} (hl : lo ≤ mi) (hh : mi ≤ hi) (h1 : gok rd lo mi F1 T1 E1 G A1) (h2 : gok rd mi hi F2 T2 E2 G A2) :
    gok rd lo hi (fun q => F1 q || (E1 && F2 q)) (fun q => T2 q || (E2 && T1 q)) (E1 && E2) (fun p q => G p q || (T1 p && F2 q)) (fun i j => ∃ m, i ≤ m ∧ m ≤ j ∧ A1 i m ∧ A2 m j) := by
  obtain ⟨a1, a2, a3, a4, a5, a6⟩ := h1
  obtain ⟨b1, b2, b3, b4, b5, b6⟩ := h2
  refine ⟨fun q h => ?_, fun q h => ?_, fun p q x y h => ?_, fun i => ?_, fun i j ⟨m, x, y, _⟩ => by omega, fun i m => ?_⟩
  · rw [Bool.or_eq_true, Bool.and_eq_true] at h
    rcases h with z | z
    · have := a1 q z; omega
    · have := b1 q z.2; omega
  · rw [Bool.or_eq_true, Bool.and_eq_true] at h
    rcases h with z | z
    · have := b2 q z; omega
    · have := a2 q z.2; omega
  · rw [Bool.or_eq_true, Bool.and_eq_true] at h
    rcases h with h | ⟨h, h'⟩
    · rcases Nat.lt_or_ge p mi with z | z
      · have := a3 p q x z h; omega
      · have := b3 p q z y h; omega
    · have := b1 q h'; omega
  · rw [Bool.and_eq_true, ← a4 i, ← b4 i]
    constructor
    · rintro ⟨m, x, y, z, w⟩
      have : m = i := by omega
      subst this; exact ⟨z, w⟩
    · rintro ⟨z, w⟩; exact ⟨i, by omega, by omega, z, w⟩
  · have key := fun q => rn_th (G := G) (E1 := E1) (rd := rd) (i := i) a1 a2 a3 b1 b3 m q
    constructor
    · rintro ⟨q, x, y⟩
      rw [Bool.or_eq_true, Bool.and_eq_true] at y
      rcases (key q).mp x with x | ⟨e, x⟩ | ⟨n, hn, x1, x⟩
      · have i1 := rn_in a1 a3 m q x
        rcases y with y | ⟨y1, y⟩
        · have := b2 q y; omega
        · exact ⟨i + m + 1, by omega, by omega, (a6 i m).mp ⟨q, x, y⟩, (b4 _).mpr y1⟩
      · have i1 := rn_in b1 b3 m q x
        rcases y with y | ⟨y1, y⟩
        · exact ⟨i, by omega, by omega, (a4 i).mpr e, (b6 i m).mp ⟨q, x, y⟩⟩
        · have := a2 q y; omega
      · have i1 := rn_in b1 b3 _ q x
        rcases y with y | ⟨y1, y⟩
        · refine ⟨i + n + 1, by omega, by omega, (a6 i n).mp x1, ?_⟩
          have := (b6 (i + n + 1) (m - n - 1)).mp ⟨q, x, y⟩
          rw [show i + n + 1 + (m - n - 1) + 1 = i + m + 1 by omega] at this
          exact this
        · have := a2 q y; omega
    · rintro ⟨k, x, y, z, w⟩
      by_cases c1 : k = i
      · subst c1
        obtain ⟨q, u, v⟩ := (b6 k m).mpr w
        exact ⟨q, (key q).mpr (Or.inr (Or.inl ⟨(a4 k).mp z, u⟩)), by dsimp only; rw [v, Bool.true_or]⟩
      · by_cases c2 : k = i + m + 1
        · subst c2
          obtain ⟨q, u, v⟩ := (a6 i m).mpr z
          exact ⟨q, (key q).mpr (Or.inl u), by dsimp only; rw [(b4 _).mp w, v]; simp⟩
        · rw [show k = i + (k - i - 1) + 1 by omega] at z
          obtain ⟨p, u, v⟩ := (a6 i (k - i - 1)).mpr z
          rw [show i + m + 1 = k + (i + m - k) + 1 by omega] at w
          obtain ⟨q, u', v'⟩ := (b6 k (i + m - k)).mpr w
          refine ⟨q, (key q).mpr (Or.inr (Or.inr ⟨k - i - 1, by omega, ⟨p, u, v⟩, ?_⟩)), by dsimp only; rw [v', Bool.true_or]⟩
          rw [show i + (k - i - 1) + 1 = k by omega, show m - (k - i - 1) - 1 = i + m - k by omega]
          exact u'
/-- chains of parts, cut at their last part -/
theorem pl_one {A : Nat → Nat → Prop} {i j : Nat} (h : i < j) (a : A i j) : pl A i j := ⟨1, j, h, Nat.le_refl _, a, Or.inl rfl⟩
theorem pl_cons {A : Nat → Nat → Prop} {i m j : Nat} (h : i < m) (hj : m ≤ j) (a : A i m) (b : pl A m j) : pl A i j := by
  obtain ⟨n, b⟩ := b
  exact ⟨n + 1, m, h, hj, a, Or.inr b⟩
theorem pl_lt {A : Nat → Nat → Prop} : ∀ n i j, pl_ A n i j → i < j
  | 0, _, _, h => absurd h id
  | n + 1, i, j, ⟨m, a, b, _⟩ => by omega
theorem pl_sn {A : Nat → Nat → Prop} {m j : Nat} (h : m < j) (a : A m j) : ∀ n i, pl_ A n i m → pl A i j
  | 0, _, b => absurd b id
  | n + 1, i, ⟨k, x, y, z, w⟩ => by
    rcases w with w | w
    · subst w; exact pl_cons x (by omega) z (pl_one h a)
    · exact pl_cons x (by omega) z (pl_sn h a n k w)
theorem pl_ri {A : Nat → Nat → Prop} {j : Nat} : ∀ n i, pl_ A n i j → A i j ∨ ∃ k, i < k ∧ k < j ∧ pl A i k ∧ A k j
  | 0, _, b => absurd b id
  | n + 1, i, ⟨k, x, y, z, w⟩ => by
    rcases w with w | w
    · subst w; exact Or.inl z
    · have hk := pl_lt n k j w
      rcases pl_ri n k w with a | ⟨k', a, b, c, d⟩
      · exact Or.inr ⟨k, x, hk, pl_one x z, a⟩
      · exact Or.inr ⟨k', by omega, b, pl_cons x (by omega) z c, d⟩
theorem rn_pl {G : Nat → Nat → Bool} {F T : Nat → Bool} {rd : Nat → Nat → Prop} {A : Nat → Nat → Prop} (hA : ∀ i m, (∃ q, Rn G F rd i m q ∧ T q = true) ↔ A i (i + m + 1)) {i : Nat} :
    ∀ m q, Rn (fun p q => G p q || (T p && F q)) F rd i m q ↔ (Rn G F rd i m q ∨ ∃ n, n < m ∧ pl A i (i + n + 1) ∧ Rn G F rd (i + n + 1) (m - n - 1) q)
  | 0, q => ⟨fun h => Or.inl h, fun h => h.elim id (fun ⟨n, a, _⟩ => absurd a (by omega))⟩
  | m + 1, q => by
    constructor
    · rintro ⟨p, a, b, c⟩
      rw [Bool.or_eq_true, Bool.and_eq_true] at b
      rcases (rn_pl hA m p).mp a with a | ⟨n, hn, a1, a⟩
      · rcases b with b | ⟨b1, b2⟩
        · exact Or.inl ⟨p, a, b, c⟩
        · refine Or.inr ⟨m, by omega, pl_one (by omega) ((hA i m).mp ⟨p, a, b1⟩), ?_⟩
          rw [show m + 1 - m - 1 = 0 by omega]; exact ⟨b2, c⟩
      · rcases b with b | ⟨b1, b2⟩
        · refine Or.inr ⟨n, by omega, a1, ?_⟩
          rw [show m + 1 - n - 1 = (m - n - 1) + 1 by omega]
          exact ⟨p, a, b, by rw [show i + n + 1 + (m - n - 1) + 1 = i + m + 1 by omega]; exact c⟩
        · have a2 := (hA (i + n + 1) (m - n - 1)).mp ⟨p, a, b1⟩
          rw [show i + n + 1 + (m - n - 1) + 1 = i + m + 1 by omega] at a2
          obtain ⟨w, a1⟩ := a1
          refine Or.inr ⟨m, by omega, pl_sn (by omega) a2 w i a1, ?_⟩
          rw [show m + 1 - m - 1 = 0 by omega]; exact ⟨b2, c⟩
    · rintro (⟨p, a, b, c⟩ | ⟨n, hn, a1, a⟩)
      · exact ⟨p, (rn_pl hA m p).mpr (Or.inl a), by dsimp only; rw [b, Bool.true_or], c⟩
      · rcases Nat.lt_or_ge n m with z | z
        · rw [show m + 1 - n - 1 = (m - n - 1) + 1 by omega] at a
          obtain ⟨p, b1, b2, b3⟩ := a
          rw [show i + n + 1 + (m - n - 1) + 1 = i + m + 1 by omega] at b3
          exact ⟨p, (rn_pl hA m p).mpr (Or.inr ⟨n, z, a1, b1⟩), by dsimp only; rw [b2, Bool.true_or], b3⟩
        · have e : n = m := by omega
          subst e
          rw [show n + 1 - n - 1 = 0 by omega] at a
          obtain ⟨b1, b2⟩ := a
          obtain ⟨w, a1⟩ := a1
          rcases pl_ri w i a1 with x | ⟨k, x1, x2, x3, x4⟩
          · obtain ⟨p, u, v⟩ := (hA i n).mpr x
            exact ⟨p, (rn_pl hA n p).mpr (Or.inl u), by dsimp only; rw [v, b1]; simp, b2⟩
          · rw [show i + n + 1 = k + (i + n - k) + 1 by omega] at x4
            obtain ⟨p, u, v⟩ := (hA k (i + n - k)).mpr x4
            refine ⟨p, (rn_pl hA n p).mpr (Or.inr ⟨k - i - 1, by omega, ?_, ?_⟩), by dsimp only; rw [v, b1]; simp, b2⟩
            · rw [show i + (k - i - 1) + 1 = k by omega]; exact x3
            · rw [show i + (k - i - 1) + 1 = k by omega, show n - (k - i - 1) - 1 = i + n - k by omega]; exact u
theorem gok_pl {rd : Nat → Nat → Prop} {lo hi : Nat} {F T : Nat → Bool} {E : Bool} {G : Nat → Nat → Bool} {A : Nat → Nat → Prop} (h : gok rd lo hi F T E G A) (E' : Bool) (A' : Nat → Nat → Prop) (h0 : ∀ i, A' i i ↔ E' = true) (h1 : ∀ i j, A' i j → i ≤ j) (h2 : ∀ i j, i < j → (A' i j ↔ pl A i j)) :
    gok rd lo hi F T E' (fun p q => G p q || (T p && F q)) A' := by
  obtain ⟨a1, a2, a3, a4, a5, a6⟩ := h
  refine ⟨a1, a2, fun p q x y h => ?_, h0, h1, fun i m => ?_⟩
  · rw [Bool.or_eq_true, Bool.and_eq_true] at h
    rcases h with h | ⟨_, h⟩
    · exact a3 p q x y h
    · exact a1 q h
  · rw [h2 i _ (by omega)]
    constructor
    · rintro ⟨q, x, y⟩
      rcases (rn_pl a6 m q).mp x with x | ⟨n, hn, x1, x⟩
      · exact pl_one (by omega) ((a6 i m).mp ⟨q, x, y⟩)
      · have a2 := (a6 (i + n + 1) (m - n - 1)).mp ⟨q, x, y⟩
        rw [show i + n + 1 + (m - n - 1) + 1 = i + m + 1 by omega] at a2
        obtain ⟨w, x1⟩ := x1
        exact pl_sn (by omega) a2 w i x1
    · rintro ⟨w, x1⟩
      rcases pl_ri w i x1 with x | ⟨k, y1, y2, y3, y4⟩
      · obtain ⟨q, u, v⟩ := (a6 i m).mpr x
        exact ⟨q, (rn_pl a6 m q).mpr (Or.inl u), v⟩
      · rw [show i + m + 1 = k + (i + m - k) + 1 by omega] at y4
        obtain ⟨q, u, v⟩ := (a6 k (i + m - k)).mpr y4
        refine ⟨q, (rn_pl a6 m q).mpr (Or.inr ⟨k - i - 1, by omega, ?_, ?_⟩), v⟩
        · rw [show i + (k - i - 1) + 1 = k by omega]; exact y3
        · rw [show i + (k - i - 1) + 1 = k by omega, show m - (k - i - 1) - 1 = i + m - k by omega]; exact u
theorem gok_em {rd : Nat → Nat → Prop} {lo hi : Nat} {F T : Nat → Bool} {E : Bool} {G : Nat → Nat → Bool} {A : Nat → Nat → Prop} (h : gok rd lo hi F T E G A) : gok rd lo hi F T true G (fun i j => i = j ∨ A i j) := by
  obtain ⟨a1, a2, a3, a4, a5, a6⟩ := h
  refine ⟨a1, a2, a3, fun i => ⟨fun _ => rfl, fun _ => Or.inl rfl⟩, fun i j h => h.elim (fun z => by omega) (a5 i j), fun i m => ?_⟩
  rw [a6]
  exact ⟨fun z => Or.inr z, fun z => z.elim (fun y => by omega) id⟩
