/-! listing sets: the pure picture -/
def fnd (G : Nat → Int64) (v : Int64) : Nat → Nat
  | 0 => 0
  | c + 1 => if fnd G v c < c then fnd G v c else if G c = v then c else c + 1
theorem fnd_s (G : Nat → Int64) (v : Int64) : ∀ c, fnd G v c ≤ c ∧ (∀ j, j < fnd G v c → G j ≠ v) ∧ (fnd G v c < c → G (fnd G v c) = v) := by
  intro c
  induction c with
  | zero => exact ⟨Nat.le_refl _, fun j h => absurd h (Nat.not_lt_zero _), fun h => absurd h (Nat.not_lt_zero _)⟩
  | succ c ih =>
    obtain ⟨h1, h2, h3⟩ := ih
    unfold fnd
    by_cases z : fnd G v c < c
    · rw [if_pos z]; exact ⟨by omega, h2, fun _ => h3 z⟩
    · have e : fnd G v c = c := by omega
      rw [if_neg z]
      rw [e] at h2
      by_cases y : G c = v
      · rw [if_pos y]; exact ⟨by omega, h2, fun _ => y⟩
      · rw [if_neg y]
        refine ⟨Nat.le_refl _, fun j hj => ?_, fun h => absurd h (by omega)⟩
        by_cases w : j = c
        · subst w; exact y
        · exact h2 j (by omega)
theorem fnd_u {G : Nat → Int64} {v : Int64} {c k : Nat} (h1 : k ≤ c) (h2 : ∀ j, j < k → G j ≠ v) (h3 : k < c → G k = v) : fnd G v c = k := by
  obtain ⟨g1, g2, g3⟩ := fnd_s G v c
  rcases Nat.lt_trichotomy (fnd G v c) k with z | z | z
  · exact absurd (g3 (by omega)) (h2 _ z)
  · exact z
  · exact absurd (h3 (by omega)) (g2 _ z)
/-- one cell of the listing: the set v is looked up, or put behind the others -/
def cel (cap ix : Nat) (v : Int64) (b : Nat × (Nat → Int64) × (Nat → Int32)) : Option (Nat × (Nat → Int64) × (Nat → Int32)) :=
  if v = 0 then some (b.1, b.2.1, upd b.2.2 ix (-1))
  else if fnd b.2.1 v b.1 = cap then none
  else if fnd b.2.1 v b.1 = b.1 then some (b.1 + 1, vp_updL b.2.1 b.1 v, upd b.2.2 ix (nI b.1))
  else some (b.1, b.2.1, upd b.2.2 ix (nI (fnd b.2.1 v b.1)))
def row (cap nc : Nat) (f : Nat → Int64) (s : Nat) (b : Nat × (Nat → Int64) × (Nat → Int32)) : Nat → Option (Nat × (Nat → Int64) × (Nat → Int32))
  | 0 => some b
  | l + 1 => (row cap nc f s b l).bind (fun b' => cel cap (nc * s + l) (f l) b')
def bf (cap nc : Nat) (tr : Nat → Int64 → Nat → Int64) (b0 : Nat × (Nat → Int64) × (Nat → Int32)) : Nat → Option (Nat × (Nat → Int64) × (Nat → Int32))
  | 0 => some b0
  | s + 1 => (bf cap nc tr b0 s).bind (fun b => if s < b.1 then row cap nc (tr s (b.2.1 s)) s b nc else some b)
theorem cel_c {cap ix : Nat} {v : Int64} {b b' : Nat × (Nat → Int64) × (Nat → Int32)} (hb : b.1 ≤ cap) (h : cel cap ix v b = some b') :
    b.1 ≤ b'.1 ∧ b'.1 ≤ cap ∧ (∀ k, k < b.1 → b'.2.1 k = b.2.1 k) ∧ (∀ j, j ≠ ix → b'.2.2 j = b.2.2 j) ∧ ((v = 0 ∧ b'.2.2 ix = -1) ∨ (v ≠ 0 ∧ ∃ k, k < b'.1 ∧ b'.2.1 k = v ∧ b'.2.2 ix = nI k)) ∧ (b'.1 = b.1 ∨ (b'.1 = b.1 + 1 ∧ v ≠ 0 ∧ b'.2.1 b.1 = v)) := by
  unfold cel at h
  by_cases c0 : v = 0
  · rw [if_pos c0] at h
    cases h
    exact ⟨Nat.le_refl _, hb, fun _ _ => rfl, fun j hj => pk_un hj, Or.inl ⟨c0, pk_us⟩, Or.inl rfl⟩
  rw [if_neg c0] at h
  obtain ⟨f1, f2, f3⟩ := fnd_s b.2.1 v b.1
  by_cases c1 : fnd b.2.1 v b.1 = cap
  · rw [if_pos c1] at h; exact absurd h (by simp)
  rw [if_neg c1] at h
  by_cases c2 : fnd b.2.1 v b.1 = b.1
  · rw [if_pos c2] at h
    cases h
    refine ⟨by dsimp only; omega, by dsimp only; omega, fun k hk => ul_n (by omega), fun j hj => pk_un hj, Or.inr ⟨c0, b.1, by dsimp only; omega, ul_s, pk_us⟩, Or.inr ⟨rfl, c0, ul_s⟩⟩
  · rw [if_neg c2] at h
    cases h
    exact ⟨Nat.le_refl _, hb, fun _ _ => rfl, fun j hj => pk_un hj, Or.inr ⟨c0, _, by dsimp only; omega, f3 (by omega), pk_us⟩, Or.inl rfl⟩
theorem row_n {cap nc : Nat} {f : Nat → Int64} {s : Nat} {b : Nat × (Nat → Int64) × (Nat → Int32)} {l : Nat} (h : row cap nc f s b l = none) : ∀ x, row cap nc f s b (l + x) = none
  | 0 => h
  | x + 1 => by
    show (row cap nc f s b (l + x)).bind _ = none
    rw [row_n h x]; rfl
theorem row_p {cap nc : Nat} {f : Nat → Int64} {s : Nat} {b : Nat × (Nat → Int64) × (Nat → Int32)} {l m : Nat} {b' : Nat × (Nat → Int64) × (Nat → Int32)} (h : row cap nc f s b m = some b') (hl : l ≤ m) : ∃ b'', row cap nc f s b l = some b'' := by
  cases e : row cap nc f s b l with
  | some b'' => exact ⟨b'', rfl⟩
  | none =>
    have := row_n e (m - l)
    rw [show l + (m - l) = m by omega, h] at this
    exact absurd this (by simp)
theorem bf_n {cap nc : Nat} {tr : Nat → Int64 → Nat → Int64} {b : Nat × (Nat → Int64) × (Nat → Int32)} {s : Nat} (h : bf cap nc tr b s = none) : ∀ x, bf cap nc tr b (s + x) = none
  | 0 => h
  | x + 1 => by
    show (bf cap nc tr b (s + x)).bind _ = none
    rw [bf_n h x]; rfl
theorem bf_e {cap nc : Nat} {tr : Nat → Int64 → Nat → Int64} {b0 b : Nat × (Nat → Int64) × (Nat → Int32)} {s : Nat} (h : bf cap nc tr b0 s = some b) (hs : b.1 ≤ s) : ∀ x, bf cap nc tr b0 (s + x) = some b
  | 0 => h
  | x + 1 => by
    show (bf cap nc tr b0 (s + x)).bind _ = _
    rw [bf_e h hs x]
    show (if s + x < b.1 then _ else some b) = _
    rw [if_neg (by omega)]
/-- what has been listed: cells that are done, and where the sets come from -/
def BI (cap nc : Nat) (tr : Nat → Int64 → Nat → Int64) (s l : Nat) (b : Nat × (Nat → Int64) × (Nat → Int32)) : Prop :=
  1 ≤ b.1 ∧ b.1 ≤ cap ∧ (∀ p m, p < b.1 → m < nc → (p < s ∨ (p = s ∧ m < l)) → (tr p (b.2.1 p) m = 0 ∧ b.2.2 (nc * p + m) = -1) ∨ (tr p (b.2.1 p) m ≠ 0 ∧ ∃ k, k < b.1 ∧ b.2.1 k = tr p (b.2.1 p) m ∧ b.2.2 (nc * p + m) = nI k)) ∧
  (∀ k, 1 ≤ k → k < b.1 → b.2.1 k ≠ 0 ∧ ∃ p m, p < k ∧ m < nc ∧ b.2.1 k = tr p (b.2.1 p) m)
theorem row_i {cap nc : Nat} {tr : Nat → Int64 → Nat → Int64} {s : Nat} {b : Nat × (Nat → Int64) × (Nat → Int32)} (hs : s < b.1) (h : BI cap nc tr s 0 b) :
    ∀ l b', l ≤ nc → row cap nc (tr s (b.2.1 s)) s b l = some b' → BI cap nc tr s l b' ∧ b.1 ≤ b'.1 ∧ (∀ k, k < b.1 → b'.2.1 k = b.2.1 k) := by
  intro l
  induction l with
  | zero => intro b' _ e; cases e; exact ⟨h, Nat.le_refl _, fun _ _ => rfl⟩
  | succ l ih =>
    intro b' hl e
    obtain ⟨b1, e1⟩ := row_p e (l := l) (by omega)
    have e2 : (row cap nc (tr s (b.2.1 s)) s b l).bind (fun b' => cel cap (nc * s + l) (tr s (b.2.1 s) l) b') = some b' := e
    rw [e1] at e2
    obtain ⟨⟨i1, i2, i3, i4⟩, i5, i6⟩ := ih b1 (by omega) e1
    obtain ⟨c1, c2, c3, c4, c5, c6⟩ := cel_c i2 e2
    have es : b'.2.1 s = b.2.1 s := by rw [c3 s (by omega), i6 s hs]
    refine ⟨⟨by omega, c2, fun p m hp hm hd => ?_, fun k hk1 hk => ?_⟩, by omega, fun k hk => by rw [c3 k (by omega), i6 k hk]⟩
    · by_cases z : p = s ∧ m = l
      · obtain ⟨rfl, rfl⟩ := z
        rw [es]; exact c5
      · have hpb : p < b1.1 := by omega
        have hne : nc * p + m ≠ nc * s + l := by
          intro q
          rcases Nat.lt_trichotomy p s with y | y | y
          · have := Nat.mul_le_mul_left nc (show p + 1 ≤ s by omega)
            rw [Nat.mul_add] at this; omega
          · subst y; omega
          · omega
        rw [c3 p hpb, c4 _ hne]
        rcases i3 p m hpb hm (by omega) with y | ⟨y1, k, y2, y3, y4⟩
        · exact Or.inl y
        · exact Or.inr ⟨y1, k, by omega, by rw [c3 k y2]; exact y3, y4⟩
    · by_cases z : k < b1.1
      · obtain ⟨j1, p, m, j2, j3, j4⟩ := i4 k hk1 z
        rw [c3 k z]
        exact ⟨j1, p, m, j2, j3, by rw [c3 p (by omega)]; exact j4⟩
      · rcases c6 with c6 | ⟨c6, c7, c8⟩
        · omega
        · have : k = b1.1 := by omega
          subst this
          rw [c8]
          exact ⟨c7, s, l, by omega, by omega, by rw [es]⟩
theorem bf_i {cap nc : Nat} {tr : Nat → Int64 → Nat → Int64} {b0 : Nat × (Nat → Int64) × (Nat → Int32)} (h0 : b0.1 = 1) (hcap : 1 ≤ cap) : ∀ s b, bf cap nc tr b0 s = some b → BI cap nc tr s 0 b ∧ b.2.1 0 = b0.2.1 0 := by
  intro s
  induction s with
  | zero =>
    intro b e
    cases e
    exact ⟨⟨by omega, by omega, fun p m _ _ h => by omega, fun k h1 h2 => by omega⟩, rfl⟩
  | succ s ih =>
    intro b e
    have e2 : (bf cap nc tr b0 s).bind (fun b => if s < b.1 then row cap nc (tr s (b.2.1 s)) s b nc else some b) = some b := e
    cases e1 : bf cap nc tr b0 s with
    | none => rw [e1] at e2; exact absurd e2 (by simp)
    | some b1 =>
      rw [e1] at e2
      have e3 : (if s < b1.1 then row cap nc (tr s (b1.2.1 s)) s b1 nc else some b1) = some b := e2
      obtain ⟨i1, i2⟩ := ih b1 e1
      by_cases z : s < b1.1
      · rw [if_pos z] at e3
        obtain ⟨⟨j1, j2, j3, j4⟩, j5, j6⟩ := row_i z i1 nc b (Nat.le_refl _) e3
        refine ⟨⟨j1, j2, fun p m hp hm hd => j3 p m hp hm ?_, j4⟩, by rw [j6 0 (by have := i1.1; omega)]; exact i2⟩
        rcases hd with hd | hd
        · by_cases y : p = s
          · exact Or.inr ⟨y, hm⟩
          · exact Or.inl (by omega)
        · omega
      · rw [if_neg z] at e3
        cases e3
        obtain ⟨j1, j2, j3, j4⟩ := i1
        exact ⟨⟨j1, j2, fun p m hp hm hd => j3 p m hp hm (Or.inl (by omega)), j4⟩, i2⟩
