/-! what nonterminals begin with -/
def itr {σ : Type} (f : σ → σ) : Nat → σ → σ
  | 0, s => s
  | k + 1, s => f (itr f k s)
theorem itr_fix {σ : Type} (f : σ → σ) (c : σ → Nat) (N : Nat) (hc : ∀ s, c s ≤ N) (hi : ∀ s, f s = s ∨ c s < c (f s)) (s : σ) : ∀ x, itr f (N + x) s = itr f N s := by
  have h1 : f (itr f N s) = itr f N s := by
    refine Classical.byContradiction (fun hn => ?_)
    have st : ∀ k, f (itr f k s) = itr f k s → ∀ x, itr f (k + x) s = itr f k s := by
      intro k hk x
      induction x with
      | zero => rfl
      | succ x ih => show f (itr f (k + x) s) = _; rw [ih, hk]
    have gr : ∀ k, k ≤ N + 1 → k ≤ c (itr f k s) := by
      intro k
      induction k with
      | zero => intro _; exact Nat.zero_le _
      | succ k ih =>
        intro hk
        have h2 := ih (by omega)
        rcases hi (itr f k s) with z | z
        · exfalso
          apply hn
          have h3 := st k z (N - k)
          have h4 := st k z (N - k + 1)
          rw [show k + (N - k) = N by omega] at h3
          rw [show k + (N - k + 1) = N + 1 by omega] at h4
          rw [h3]; exact z
        · show k + 1 ≤ c (f (itr f k s))
          omega
    have h5 := gr (N + 1) (Nat.le_refl _)
    have h6 := hc (itr f (N + 1) s)
    omega
  intro x
  induction x with
  | zero => rfl
  | succ x ih => show f (itr f (N + x) s) = _; rw [ih, h1]
section
variable (L W : Nat → Nat) (R : Nat → Nat → Nat)
def bgn (yb : Nat → Int32) (x : Nat) : Int32 := if x < 4 then (1 : Int32) <<< (nI x &&& 31) else yb (x - 10)
def emp (ny : Nat → Int32) (x : Nat) : Bool := decide (10 ≤ x) && !(ny (x - 10) == 0)
/-- the terminals that begin the symbols from place k on; whether all of these can be empty -/
def rsP (s : (Nat → Int32) × (Nat → Int32)) (p : Nat) : Nat → Nat → Int32 → Int32 × Bool
  | 0, _, a => (a, true)
  | d + 1, k, a => if emp s.2 (R p k) then rsP s p d (k + 1) (a ||| bgn s.1 (R p k)) else (a ||| bgn s.1 (R p k), false)
def rst (s : (Nat → Int32) × (Nat → Int32)) (p k : Nat) : Int32 × Bool := rsP R s p (W p - k) k 0
def pstp (p : Nat) (s : (Nat → Int32) × (Nat → Int32)) : (Nat → Int32) × (Nat → Int32) :=
  (upd s.1 (L p - 10) (s.1 (L p - 10) ||| (rst W R s p 0).1), if (rst W R s p 0).2 then upd s.2 (L p - 10) 1 else s.2)
def rnd : Nat → (Nat → Int32) × (Nat → Int32) → (Nat → Int32) × (Nat → Int32)
  | 0, s => s
  | p + 1, s => pstp L W R p (rnd p s)
def low (x : Int32) : Prop := ∀ i, 4 ≤ i → bt x i = false
def LW (s : (Nat → Int32) × (Nat → Int32)) : Prop := ∀ n, n < 3 → low (s.1 n) ∧ (s.2 n = 0 ∨ s.2 n = 1)
end
section
variable {pc : Nat} {L W : Nat → Nat} {R : Nat → Nat → Nat}
theorem low_0 : low 0 := fun i _ => b_0 i
theorem low_or {x y : Int32} (h : low x) (g : low y) : low (x ||| y) := fun i hi => by rw [b_or, h i hi, g i hi]; rfl
theorem low_b {s : (Nat → Int32) × (Nat → Int32)} (h : LW s) {x : Nat} (hx : sym x) : low (bgn s.1 x) := by
  unfold bgn
  by_cases c : x < 4
  · rw [if_pos c]
    intro i hi
    rw [zc_one (by omega)]; exact decide_eq_false (by omega)
  · rw [if_neg c]
    exact (h (x - 10) (by rcases hx with z | z <;> omega)).1
theorem rsP_low {s : (Nat → Int32) × (Nat → Int32)} (h : LW s) {p : Nat} : ∀ d k a, (∀ j, k ≤ j → j < k + d → sym (R p j)) → low a → low (rsP R s p d k a).1
  | 0, k, a, _, ha => ha
  | d + 1, k, a, hR, ha => by
    unfold rsP
    have hb := low_or ha (low_b h (hR k (Nat.le_refl _) (by omega)))
    split
    · exact rsP_low h d (k + 1) _ (fun j h1 h2 => hR j (by omega) (by omega)) hb
    · exact hb
theorem rst_low {s : (Nat → Int32) × (Nat → Int32)} (h : LW s) (hV : gr_V pc L W R) {p k : Nat} : low (rst W R s p k).1 :=
  rsP_low h _ _ _ (fun j h1 h2 => (hV.2.1 p).2.2 j (by omega)) low_0
theorem LW_p {s : (Nat → Int32) × (Nat → Int32)} (h : LW s) (hV : gr_V pc L W R) {p : Nat} (hp : p < pc) : LW (pstp L W R p s) := by
  intro n hn
  unfold pstp
  refine ⟨?_, ?_⟩
  · dsimp only
    by_cases e : n = L p - 10
    · subst e; rw [pk_us]; exact low_or (h _ hn).1 (rst_low h hV)
    · rw [pk_un e]; exact (h n hn).1
  · dsimp only
    split
    · by_cases e : n = L p - 10
      · subst e; rw [pk_us]; exact Or.inr rfl
      · rw [pk_un e]; exact (h n hn).2
    · exact (h n hn).2
theorem LW_r {s : (Nat → Int32) × (Nat → Int32)} (h : LW s) (hV : gr_V pc L W R) : ∀ p, p ≤ pc → LW (rnd L W R p s)
  | 0, _ => h
  | p + 1, hp => LW_p (LW_r h hV p (by omega)) hV (by omega)
theorem LW_i {s : (Nat → Int32) × (Nat → Int32)} (h : LW s) (hV : gr_V pc L W R) : ∀ k, LW (itr (rnd L W R pc) k s)
  | 0 => h
  | k + 1 => LW_r (LW_i h hV k) hV pc (Nat.le_refl _)
end
/-! the same, bit by bit -/
section
variable (L W : Nat → Nat) (R : Nat → Nat → Nat) (t : Nat)
def rsB (s : (Nat → Bool) × (Nat → Bool)) (p : Nat) : Nat → Nat → Bool → Bool × Bool
  | 0, _, a => (a, true)
  | d + 1, k, a => if decide (10 ≤ R p k) && s.1 (R p k - 10) then rsB s p d (k + 1) (a || (if R p k < 4 then decide (t = R p k) else s.2 (R p k - 10))) else (a || (if R p k < 4 then decide (t = R p k) else s.2 (R p k - 10)), false)
def pB (p : Nat) (s : (Nat → Bool) × (Nat → Bool)) : (Nat → Bool) × (Nat → Bool) :=
  (fun n => s.1 n || ((n == L p - 10) && (rsB R t s p (W p) 0 false).2), fun n => s.2 n || ((n == L p - 10) && (rsB R t s p (W p) 0 false).1))
def rB : Nat → (Nat → Bool) × (Nat → Bool) → (Nat → Bool) × (Nat → Bool)
  | 0, s => s
  | p + 1, s => pB L W R t p (rB p s)
def pj (s : (Nat → Int32) × (Nat → Int32)) : (Nat → Bool) × (Nat → Bool) := (fun n => decide (n < 3) && !(s.2 n == 0), fun n => decide (n < 3) && bt (s.1 n) t)
end
def c3 (f : Nat → Bool) : Nat := (if f 0 then 1 else 0) + (if f 1 then 1 else 0) + (if f 2 then 1 else 0)
theorem c3_le (f : Nat → Bool) : c3 f ≤ 3 := by unfold c3; (repeat' split) <;> omega
theorem c3_or (f : Nat → Bool) (m : Nat) (b : Bool) (hm : m < 3) : (fun n => f n || ((n == m) && b)) = f ∨ c3 f < c3 (fun n => f n || ((n == m) && b)) := by
  cases b with
  | false => left; funext n; simp
  | true =>
    cases hf : f m with
    | true =>
      left; funext n
      by_cases e : n = m
      · subst e; simp [hf]
      · simp [e]
    | false =>
      right
      unfold c3
      have hm' : m = 0 ∨ m = 1 ∨ m = 2 := by omega
      rcases hm' with rfl | rfl | rfl <;> simp [hf] <;> omega
section
variable {pc : Nat} {L W : Nat → Nat} {R : Nat → Nat → Nat} {t : Nat}
def c6 (s : (Nat → Bool) × (Nat → Bool)) : Nat := c3 s.1 + c3 s.2
theorem pB_i {p : Nat} (hm : L p - 10 < 3) (s : (Nat → Bool) × (Nat → Bool)) : pB L W R t p s = s ∨ c6 s < c6 (pB L W R t p s) := by
  unfold pB c6
  dsimp only
  rcases c3_or s.1 (L p - 10) (rsB R t s p (W p) 0 false).2 hm with h1 | h1 <;> rcases c3_or s.2 (L p - 10) (rsB R t s p (W p) 0 false).1 hm with h2 | h2
  · left; rw [h1, h2]
  · right; rw [h1]; omega
  · right; rw [h2]; omega
  · right; omega
theorem rB_i (hL : ∀ p, p < pc → L p - 10 < 3) (s : (Nat → Bool) × (Nat → Bool)) : ∀ p, p ≤ pc → rB L W R t p s = s ∨ c6 s < c6 (rB L W R t p s)
  | 0, _ => Or.inl rfl
  | p + 1, hp => by
    have h1 := rB_i hL s p (by omega)
    have h2 := pB_i (W := W) (R := R) (t := t) (hL p (by omega)) (rB L W R t p s)
    show pB L W R t p (rB L W R t p s) = s ∨ c6 s < c6 (pB L W R t p (rB L W R t p s))
    rcases h1 with h1 | h1
    · rw [h1] at h2 ⊢; exact h2
    · rcases h2 with h2 | h2
      · rw [h2]; exact Or.inr h1
      · exact Or.inr (by omega)
theorem rs_pj {s : (Nat → Int32) × (Nat → Int32)} {p : Nat} : ∀ d k a, (∀ j, k ≤ j → j < k + d → sym (R p j)) → (bt (rsP R s p d k a).1 t, (rsP R s p d k a).2) = rsB R t (pj t s) p d k (bt a t)
  | 0, k, a, _ => rfl
  | d + 1, k, a, hR => by
    have hs := hR k (Nat.le_refl _) (by omega)
    have e1 : bt (a ||| bgn s.1 (R p k)) t = (bt a t || (if R p k < 4 then decide (t = R p k) else (pj t s).2 (R p k - 10))) := by
      rw [b_or]
      unfold bgn pj
      by_cases c : R p k < 4
      · rw [if_pos c, if_pos c, zc_one (by omega)]
      · rw [if_neg c, if_neg c]
        dsimp only
        rw [decide_eq_true (show R p k - 10 < 3 by rcases hs with z | z <;> omega), Bool.true_and]
    have e2 : emp s.2 (R p k) = (decide (10 ≤ R p k) && (pj t s).1 (R p k - 10)) := by
      unfold emp pj
      dsimp only
      by_cases c : 10 ≤ R p k
      · rw [decide_eq_true c, decide_eq_true (show R p k - 10 < 3 by rcases hs with z | z <;> omega)]; simp
      · rw [decide_eq_false c]; simp
    unfold rsP rsB
    rw [e2, ← e1]
    split
    · exact rs_pj d (k + 1) _ (fun j h1 h2 => hR j (by omega) (by omega))
    · rfl
theorem p_pj (hV : gr_V pc L W R) {s : (Nat → Int32) × (Nat → Int32)} {p : Nat} (hp : p < pc) : pj t (pstp L W R p s) = pB L W R t p (pj t s) := by
  have hL := hV.2.2.1 p hp
  have h := rs_pj (R := R) (t := t) (s := s) (p := p) (W p - 0) 0 0 (fun j h1 h2 => (hV.2.1 p).2.2 j (by omega))
  rw [b_0] at h
  have h1 := congrArg Prod.fst h
  have h2 := congrArg Prod.snd h
  dsimp only at h1 h2
  rw [Nat.sub_zero] at h1 h2
  unfold pB
  rw [← h1, ← h2]
  unfold pstp pj rst
  rw [Nat.sub_zero]
  dsimp only
  refine Prod.ext ?_ ?_
  · funext n
    dsimp only
    by_cases e : n = L p - 10
    · subst e
      rw [decide_eq_true (show L p - 10 < 3 by omega)]
      cases hE : (rsP R s p (W p) 0 0).2 with
      | true => rw [if_pos rfl, pk_us]; simp
      | false => rw [if_neg (by decide)]; simp
    · cases hE : (rsP R s p (W p) 0 0).2 with
      | true => rw [if_pos rfl, pk_un e]; simp [e]
      | false => rw [if_neg (by decide)]; simp
  · funext n
    dsimp only
    by_cases e : n = L p - 10
    · subst e
      rw [decide_eq_true (show L p - 10 < 3 by omega), pk_us, b_or]; simp
    · rw [pk_un e]; simp [e]
theorem r_pj (hV : gr_V pc L W R) {s : (Nat → Int32) × (Nat → Int32)} : ∀ p, p ≤ pc → pj t (rnd L W R p s) = rB L W R t p (pj t s)
  | 0, _ => rfl
  | p + 1, hp => by
    show pj t (pstp L W R p (rnd L W R p s)) = pB L W R t p (rB L W R t p (pj t s))
    rw [p_pj hV (by omega), r_pj hV p (by omega)]
theorem i_pj (hV : gr_V pc L W R) {s : (Nat → Int32) × (Nat → Int32)} : ∀ k, pj t (itr (rnd L W R pc) k s) = itr (rB L W R t pc) k (pj t s)
  | 0 => rfl
  | k + 1 => by
    show pj t (rnd L W R pc (itr (rnd L W R pc) k s)) = rB L W R t pc (itr (rB L W R t pc) k (pj t s))
    rw [r_pj hV pc (Nat.le_refl _), i_pj hV k]
/-- eight rounds are enough, and nineteen give the same -/
theorem bg_eq (hV : gr_V pc L W R) {s : (Nat → Int32) × (Nat → Int32)} (hs : LW s) {n : Nat} (hn : n < 3) :
    (itr (rnd L W R pc) 19 s).1 n = (itr (rnd L W R pc) 8 s).1 n ∧ (itr (rnd L W R pc) 19 s).2 n = (itr (rnd L W R pc) 8 s).2 n := by
  have key : ∀ t, pj t (itr (rnd L W R pc) 19 s) = pj t (itr (rnd L W R pc) 8 s) := by
    intro t
    rw [i_pj hV, i_pj hV]
    have hf := itr_fix (rB L W R t pc) c6 6 (fun s => by unfold c6; have := c3_le s.1; have := c3_le s.2; omega) (fun s => rB_i (fun p hp => by have := hV.2.2.1 p hp; omega) s pc (Nat.le_refl _)) (pj t s)
    rw [show 19 = 6 + 13 from rfl, show 8 = 6 + 2 from rfl, hf 13, hf 2]
  have l1 := LW_i hs hV 19 n hn
  have l2 := LW_i hs hV 8 n hn
  generalize itr (rnd L W R pc) 19 s = a at key l1
  generalize itr (rnd L W R pc) 8 s = b at key l2
  have kb : ∀ t, bt (a.1 n) t = bt (b.1 n) t := by
    intro t
    have := congrFun (congrArg Prod.snd (key t)) n
    unfold pj at this
    dsimp only at this
    rw [decide_eq_true hn, Bool.true_and, Bool.true_and] at this
    exact this
  refine ⟨b_ext fun i _ => kb i, ?_⟩
  have := congrFun (congrArg Prod.fst (key 0)) n
  unfold pj at this
  dsimp only at this
  rw [decide_eq_true hn, Bool.true_and, Bool.true_and] at this
  rcases l1.2 with h1 | h1 <;> rcases l2.2 with h2 | h2
  · rw [h1, h2]
  · rw [h1, h2] at this; exact absurd this (by decide)
  · rw [h1, h2] at this; exact absurd this (by decide)
  · rw [h1, h2]
end
