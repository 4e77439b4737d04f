/-! lookaheads: the pure picture -/
def adL (la : Nat → Nat → Int32) (s i : Nat) (v : Int32) : Nat → Nat → Int32 := fun p q => if p = s ∧ q = i then la s i ||| v else la p q
def add_ (s i : Nat) (v : Int32) (z : (Nat → Nat → Int32) × Bool) : (Nat → Nat → Int32) × Bool := (adL z.1 s i v, z.2 || !((z.1 s i ||| v) == z.1 s i))
section
variable (pc : Nat) (L W : Nat → Nat) (R : Nat → Nat → Nat) (bs : (Nat → Int32) × (Nat → Int32)) (G : Nat → Int64) (M : Nat → Int32)
def fldP (s x : Nat) (v : Int32) : Nat → (Nat → Nat → Int32) × Bool → (Nat → Nat → Int32) × Bool
  | 0, z => z
  | p + 1, z => if L p = x then add_ s (4 * p) v (fldP s x v p z) else fldP s x v p z
def hO (s i : Nat) (la : Nat → Nat → Int32) : (Nat → Nat → Int32) × Bool :=
  if i % 4 < W (i / 4) then
    (if R (i / 4) (i % 4) < 10 then add_ (M (7 * s + col (R (i / 4) (i % 4)))).toNatClampNeg (i + 1) (la s i) (la, false)
      else fldP L s (R (i / 4) (i % 4)) (rsv (rst W R bs (i / 4) (i % 4 + 1)) (la s i)) pc (add_ (M (7 * s + col (R (i / 4) (i % 4)))).toNatClampNeg (i + 1) (la s i) (la, false)))
  else (la, false)
def rowL (s : Nat) : Nat → (Nat → Nat → Int32) × Bool → (Nat → Nat → Int32) × Bool
  | 0, z => z
  | i + 1, z => if bl (G s) i then ((hO pc L W R bs M s i (rowL s i z).1).1, (rowL s i z).2 || (hO pc L W R bs M s i (rowL s i z).1).2) else rowL s i z
def allL : Nat → (Nat → Nat → Int32) × Bool → (Nat → Nat → Int32) × Bool
  | 0, z => z
  | s + 1, z => rowL pc L W R bs G M s 34 (allL s z)
def laK (ns : Nat) : Nat → Nat → Nat → Int32
  | 0 => fun s i => if s = 0 ∧ i = 32 then 16 else 0
  | k + 1 => (allL pc L W R bs G M ns (laK ns k, false)).1
end
def L5 (la : Nat → Nat → Int32) : Prop := ∀ s i t, 5 ≤ t → bt (la s i) t = false
def Gw (z w : (Nat → Nat → Int32) × Bool) : Prop :=
  (∀ s i t, bt (z.1 s i) t = true → bt (w.1 s i) t = true) ∧ (z.2 = true → w.2 = true) ∧ (w.2 = true → z.2 = true ∨ ∃ s i t, s < 40 ∧ i < 34 ∧ t < 5 ∧ bt (z.1 s i) t = false ∧ bt (w.1 s i) t = true)
theorem Gw_r (z : (Nat → Nat → Int32) × Bool) : Gw z z := ⟨fun _ _ _ h => h, id, Or.inl⟩
theorem Gw_t {a b c : (Nat → Nat → Int32) × Bool} (h : Gw a b) (g : Gw b c) : Gw a c := by
  refine ⟨fun s i t x => g.1 s i t (h.1 s i t x), fun x => g.2.1 (h.2.1 x), fun x => ?_⟩
  rcases g.2.2 x with y | ⟨s, i, t, h1, h2, h3, h4, h5⟩
  · rcases h.2.2 y with y | ⟨s, i, t, h1, h2, h3, h4, h5⟩
    · exact Or.inl y
    · exact Or.inr ⟨s, i, t, h1, h2, h3, h4, g.1 s i t h5⟩
  · refine Or.inr ⟨s, i, t, h1, h2, h3, ?_, h5⟩
    cases e : bt (a.1 s i) t with
    | false => rfl
    | true => rw [h.1 s i t e] at h4; exact absurd h4 (by decide)
theorem add_5 {s i : Nat} {v : Int32} {z : (Nat → Nat → Int32) × Bool} (h : L5 z.1) (hv : ∀ t, 5 ≤ t → bt v t = false) : L5 (add_ s i v z).1 := by
  intro p q t ht
  unfold add_ adL
  dsimp only
  split
  · rw [b_or, h s i t ht, hv t ht]; rfl
  · exact h p q t ht
theorem add_g {s i : Nat} {v : Int32} {z : (Nat → Nat → Int32) × Bool} (h : L5 z.1) (hv : ∀ t, 5 ≤ t → bt v t = false) (hs : s < 40) (hi : i < 34) : Gw z (add_ s i v z) := by
  refine ⟨fun p q t x => ?_, fun x => ?_, fun x => ?_⟩
  · unfold add_ adL
    dsimp only
    split
    · next c => obtain ⟨rfl, rfl⟩ := c; rw [b_or, x]; rfl
    · exact x
  · unfold add_; dsimp only; rw [x]; rfl
  · unfold add_ at x
    dsimp only at x
    rw [Bool.or_eq_true] at x
    rcases x with x | x
    · exact Or.inl x
    · refine Or.inr ?_
      have hne : (z.1 s i ||| v) ≠ z.1 s i := by simpa using x
      have : ∃ t, bt (z.1 s i) t = false ∧ bt (z.1 s i ||| v) t = true := by
        refine Classical.byContradiction (fun hno => hne (b_ext fun t _ => ?_))
        cases e : bt (z.1 s i) t with
        | true => rw [b_or, e]; rfl
        | false =>
          cases e2 : bt (z.1 s i ||| v) t with
          | false => rfl
          | true => exact absurd ⟨t, e, e2⟩ hno
      obtain ⟨t, h1, h2⟩ := this
      refine ⟨s, i, t, hs, hi, ?_, h1, ?_⟩
      · rcases Nat.lt_or_ge t 5 with c | c
        · exact c
        · rw [b_or, h s i t c, hv t c] at h2; exact absurd h2 (by decide)
      · unfold add_ adL; dsimp only; rw [if_pos ⟨rfl, rfl⟩]; exact h2
section
variable {pc : Nat} {L W : Nat → Nat} {R : Nat → Nat → Nat} {bs : (Nat → Int32) × (Nat → Int32)} {G : Nat → Int64} {M : Nat → Int32}
theorem fld_5 {s x : Nat} {v : Int32} {z : (Nat → Nat → Int32) × Bool} (h : L5 z.1) (hv : ∀ t, 5 ≤ t → bt v t = false) (hs : s < 40) : ∀ p, p ≤ 8 → L5 (fldP L s x v p z).1 ∧ Gw z (fldP L s x v p z)
  | 0, _ => ⟨h, Gw_r z⟩
  | p + 1, hp => by
    obtain ⟨h1, h2⟩ := fld_5 h hv hs p (by omega)
    unfold fldP
    split
    · exact ⟨add_5 h1 hv, Gw_t h2 (add_g h1 hv hs (by omega))⟩
    · exact ⟨h1, h2⟩
/-- where the states' items lead, and that all is within -/
def laH (pc ns : Nat) (L W : Nat → Nat) (R : Nat → Nat → Nat) (bs : (Nat → Int32) × (Nat → Int32)) (G : Nat → Int64) (M : Nat → Int32) : Prop :=
  gr_V pc L W R ∧ LW bs ∧ ns ≤ 40 ∧ (∀ s j, s < ns → 34 ≤ j → bl (G s) j = false) ∧ (∀ s i, s < ns → i < 34 → bl (G s) i = true → i % 4 < W (i / 4) → ∃ t, t < ns ∧ M (7 * s + col (R (i / 4) (i % 4))) = nI t)
theorem rsv_5 (hV : gr_V pc L W R) (hb : LW bs) {p k : Nat} {own : Int32} (ho : ∀ t, 5 ≤ t → bt own t = false) : ∀ t, 5 ≤ t → bt (rsv (rst W R bs p k) own) t = false := by
  intro t ht
  have hl := rst_low (W := W) (R := R) hb hV (p := p) (k := k) t (by omega)
  unfold rsv
  split
  · rw [b_or, hl, ho t ht]; rfl
  · exact hl
theorem i33 (hV : gr_V pc L W R) {i : Nat} (hi : i < 34) (c : i % 4 < W (i / 4)) : i + 1 < 34 ∧ (i + 1) % 4 ≠ 0 ∧ i / 4 < 9 ∧ i % 4 + 1 ≤ W (i / 4) ∧ (i + 1) / 4 = i / 4 := by
  have hw := (hV.2.1 (i / 4)).2.1
  have h8 := hV.2.2.2.2.1
  by_cases e : i / 4 = 8
  · have h81 : W (i / 4) = 1 := by rw [e, h8]
    exact ⟨by omega, by omega, by omega, by omega, by omega⟩
  · exact ⟨by omega, by omega, by omega, by omega, by omega⟩
theorem hO_5 {ns : Nat} (H : laH pc ns L W R bs G M) {s i : Nat} (hs : s < ns) (hi : i < 34) (hb : bl (G s) i = true) {la : Nat → Nat → Int32} (h : L5 la) : L5 (hO pc L W R bs M s i la).1 ∧ Gw (la, false) (hO pc L W R bs M s i la) := by
  obtain ⟨hV, hbs, hns, h34, hT⟩ := H
  unfold hO
  by_cases c : i % 4 < W (i / 4)
  · rw [if_pos c]
    obtain ⟨t, ht, et⟩ := hT s i hs hi hb c
    have hi1 := (i33 hV hi c).1
    rw [et, nI_clamp (by omega)]
    have a1 := add_5 (z := (la, false)) (s := t) (i := i + 1) h (h s i)
    have a2 := add_g (z := (la, false)) (s := t) (i := i + 1) h (h s i) (by omega) hi1
    split
    · exact ⟨a1, a2⟩
    · obtain ⟨b1, b2⟩ := fld_5 (L := L) (s := s) (x := R (i / 4) (i % 4)) a1 (rsv_5 hV hbs (p := i / 4) (k := i % 4 + 1) (h s i)) (by omega) pc hV.1
      exact ⟨b1, Gw_t a2 b2⟩
  · rw [if_neg c]; exact ⟨h, Gw_r _⟩
theorem rowL_5 {ns : Nat} (H : laH pc ns L W R bs G M) {s : Nat} (hs : s < ns) {z : (Nat → Nat → Int32) × Bool} (h : L5 z.1) : ∀ i, i ≤ 34 → L5 (rowL pc L W R bs G M s i z).1 ∧ Gw z (rowL pc L W R bs G M s i z)
  | 0, _ => ⟨h, Gw_r z⟩
  | i + 1, hi => by
    obtain ⟨h1, h2⟩ := rowL_5 H hs h i (by omega)
    unfold rowL
    split
    · next c =>
      obtain ⟨g1, g2⟩ := hO_5 H hs (by omega) c h1
      refine ⟨g1, Gw_t h2 ⟨g2.1, fun x => by dsimp only; rw [x]; rfl, fun x => ?_⟩⟩
      dsimp only at x
      rw [Bool.or_eq_true] at x
      rcases x with x | x
      · exact Or.inl x
      · exact (g2.2.2 x).elim (fun y => absurd y (show ¬ (false = true) by decide)) Or.inr
    · exact ⟨h1, h2⟩
theorem allL_5 {ns : Nat} (H : laH pc ns L W R bs G M) {z : (Nat → Nat → Int32) × Bool} (h : L5 z.1) : ∀ s, s ≤ ns → L5 (allL pc L W R bs G M s z).1 ∧ Gw z (allL pc L W R bs G M s z)
  | 0, _ => ⟨h, Gw_r z⟩
  | s + 1, hs => by
    obtain ⟨h1, h2⟩ := allL_5 H h s (by omega)
    obtain ⟨g1, g2⟩ := rowL_5 H (show s < ns by omega) h1 34 (Nat.le_refl _)
    exact ⟨g1, Gw_t h2 g2⟩
end
/-! the rounds end -/
def cb (f : Nat → Bool) : Nat → Nat
  | 0 => 0
  | n + 1 => cb f n + (if f n then 1 else 0)
theorem cb_le (f : Nat → Bool) : ∀ n, cb f n ≤ n
  | 0 => Nat.le_refl _
  | n + 1 => by have := cb_le f n; show cb f n + (if f n then 1 else 0) ≤ n + 1; split <;> omega
theorem cb_m {f g : Nat → Bool} (h : ∀ k, f k = true → g k = true) : ∀ n, cb f n ≤ cb g n
  | 0 => Nat.le_refl _
  | n + 1 => by
    have := cb_m h n
    show cb f n + (if f n then 1 else 0) ≤ cb g n + (if g n then 1 else 0)
    by_cases c : f n = true
    · rw [if_pos c, if_pos (h n c)]; omega
    · rw [if_neg c]; split <;> omega
theorem cb_s {f g : Nat → Bool} (h : ∀ k, f k = true → g k = true) {k : Nat} (h1 : f k = false) (h2 : g k = true) : ∀ n, k < n → cb f n < cb g n
  | 0, hk => absurd hk (Nat.not_lt_zero _)
  | n + 1, hk => by
    show cb f n + (if f n then 1 else 0) < cb g n + (if g n then 1 else 0)
    by_cases e : k = n
    · subst e
      have := cb_m h k
      rw [if_neg (by rw [h1]; decide), if_pos h2]; omega
    · have := cb_s h h1 h2 n (by omega)
      by_cases c : f n = true
      · rw [if_pos c, if_pos (h n c)]; omega
      · rw [if_neg c]; split <;> omega
def mu_ (la : Nat → Nat → Int32) : Nat := cb (fun k => bt (la (k / 5 / 34) (k / 5 % 34)) (k % 5)) 6800
theorem mu_lt {z w : (Nat → Nat → Int32) × Bool} (h : Gw z w) (h0 : z.2 = false) (h1 : w.2 = true) : mu_ z.1 < mu_ w.1 := by
  rcases h.2.2 h1 with y | ⟨s, i, t, a, b, c, d, e⟩
  · rw [h0] at y; exact absurd y (by decide)
  · refine cb_s (k := 5 * (34 * s + i) + t) (fun k x => h.1 _ _ _ x) ?_ ?_ 6800 (by omega)
    · rw [show (5 * (34 * s + i) + t) / 5 / 34 = s by omega, show (5 * (34 * s + i) + t) / 5 % 34 = i by omega, show (5 * (34 * s + i) + t) % 5 = t by omega]; exact d
    · rw [show (5 * (34 * s + i) + t) / 5 / 34 = s by omega, show (5 * (34 * s + i) + t) / 5 % 34 = i by omega, show (5 * (34 * s + i) + t) % 5 = t by omega]; exact e
section
variable {pc : Nat} {L W : Nat → Nat} {R : Nat → Nat → Nat} {bs : (Nat → Int32) × (Nat → Int32)} {G : Nat → Int64} {M : Nat → Int32}
theorem laK_5 {ns : Nat} (H : laH pc ns L W R bs G M) : ∀ k, L5 (laK pc L W R bs G M ns k)
  | 0 => by
    intro s i t ht
    unfold laK
    split
    · by_cases c : t < 32
      · have : ∀ t, t < 32 → 5 ≤ t → bt 16 t = false := by decide +kernel
        exact this t c ht
      · exact b_big (by omega)
    · exact b_0 t
  | k + 1 => (allL_5 H (z := (laK pc L W R bs G M ns k, false)) (laK_5 H k) ns (Nat.le_refl _)).1
/-- some round within 6800 brings nothing new, and all before it do -/
theorem la_end {ns : Nat} (H : laH pc ns L W R bs G M) : ∃ N, N ≤ 6800 ∧ (∀ k, k < N → (allL pc L W R bs G M ns (laK pc L W R bs G M ns k, false)).2 = true) ∧ (allL pc L W R bs G M ns (laK pc L W R bs G M ns N, false)).2 = false := by
  have ex : ∃ N, (allL pc L W R bs G M ns (laK pc L W R bs G M ns N, false)).2 = false ∧ N ≤ 6800 := by
    refine Classical.byContradiction (fun hno => ?_)
    have hall : ∀ N, N ≤ 6800 → (allL pc L W R bs G M ns (laK pc L W R bs G M ns N, false)).2 = true := by
      intro N hN
      cases e : (allL pc L W R bs G M ns (laK pc L W R bs G M ns N, false)).2 with
      | true => rfl
      | false => exact absurd ⟨N, e, hN⟩ hno
    have gr : ∀ N, N ≤ 6801 → N ≤ mu_ (laK pc L W R bs G M ns N) := by
      intro N
      induction N with
      | zero => intro _; exact Nat.zero_le _
      | succ N ih =>
        intro hN
        have h1 := ih (by omega)
        have h2 := mu_lt (allL_5 H (z := (laK pc L W R bs G M ns N, false)) (laK_5 H N) ns (Nat.le_refl _)).2 rfl (hall N (by omega))
        have h3 : mu_ (laK pc L W R bs G M ns N) < mu_ (laK pc L W R bs G M ns (N + 1)) := h2
        omega
    have h1 := gr 6801 (Nat.le_refl _)
    have h2 : mu_ (laK pc L W R bs G M ns 6801) ≤ 6800 := cb_le _ _
    omega
  obtain ⟨N, h1, h2⟩ := ex
  obtain ⟨K, ⟨k1, k2⟩, k3⟩ := pk_least (fun N => (allL pc L W R bs G M ns (laK pc L W R bs G M ns N, false)).2 = false ∧ N ≤ 6800) ⟨N, h1, h2⟩
  refine ⟨K, k2, fun k hk => ?_, k1⟩
  cases e : (allL pc L W R bs G M ns (laK pc L W R bs G M ns k, false)).2 with
  | true => rfl
  | false => exact absurd ⟨e, by omega⟩ (k3 k hk)
end
