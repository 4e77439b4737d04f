/-! places: the stack of expressions, and all rules together -/
theorem gok_hi {rd : Nat → Nat → Prop} {lo hi hi' : Nat} {F T : Nat → Bool} {E : Bool} {G : Nat → Nat → Bool} {A : Nat → Nat → Prop} (h : gok rd lo hi F T E G A) (hh : hi ≤ hi') (hG : ∀ p q, hi ≤ p → p < hi' → G p q = false) : gok rd lo hi' F T E G A := by
  obtain ⟨a1, a2, a3, a4, a5, a6⟩ := h
  refine ⟨fun q h => ?_, fun q h => ?_, fun p q x y h => ?_, a4, a5, a6⟩
  · have := a1 q h; omega
  · have := a2 q h; omega
  · rcases Nat.lt_or_ge p hi with z | z
    · have := a3 p q x z h; omega
    · rw [hG p q z y] at h; exact absurd h (by decide)
theorem gok_cg {rd : Nat → Nat → Prop} {lo hi : Nat} {F T : Nat → Bool} {E : Bool} {G : Nat → Nat → Bool} {A B : Nat → Nat → Prop} (h : gok rd lo hi F T E G A) (e : ∀ i j, A i j ↔ B i j) : gok rd lo hi F T E G B := by
  obtain ⟨a1, a2, a3, a4, a5, a6⟩ := h
  exact ⟨a1, a2, a3, fun i => (e i i).symm.trans (a4 i), fun i j h => a5 i j ((e i j).mpr h), fun i m => (a6 i m).trans (e _ _)⟩
theorem lo_mono {lo : Nat → Nat} {d : Nat} (h : ∀ e, e < d → lo e ≤ lo (e + 1)) {e : Nat} : ∀ x, e + x ≤ d → lo e ≤ lo (e + x)
  | 0, _ => Nat.le_refl _
  | x + 1, hx => Nat.le_trans (lo_mono h x (by omega)) (h (e + x) (by omega))
theorem tk_c (t : Nat) : (t < 5 → tk t = 0) ∧ (t = 5 ∨ t = 6 → tk t = 2) ∧ (7 ≤ t → tk t = 1) := by
  unfold tk
  refine ⟨fun h => if_pos h, fun h => ?_, fun h => ?_⟩
  · rw [if_neg (by omega), if_pos (by omega)]
  · rw [if_neg (by omega), if_neg (by omega)]
def rdp (tm tl : Nat → Nat) (q i : Nat) : Prop := tm q = 4 ∨ tl i = tm q
theorem gl_inv {tm tl : Nat → Nat} {b n : Nat} {G0 : Nat → Nat → Bool} (hw : ∀ k, k < n → tk (tm (b + k)) ≤ dp tm b k) (ht : ∀ k, tm k < 10) (hG0 : ∀ p q, b ≤ p → G0 p q = false) :
    ∀ k, k ≤ n → ∃ lo : Nat → Nat, lo 0 = b ∧ lo (dp tm b k) = b + k ∧ (∀ e, e < dp tm b k → lo e ≤ lo (e + 1)) ∧
      (∀ e, e < dp tm b k → gok (rdp tm tl) (lo e) (lo (e + 1)) ((gl tm b G0 k).1 e) ((gl tm b G0 k).2.1 e) ((gl tm b G0 k).2.2.1 e) (gl tm b G0 k).2.2.2 (ev tl tm b k e)) ∧
      (∀ p q, (p < b ∨ b + k ≤ p) → (gl tm b G0 k).2.2.2 p q = G0 p q) := by
  intro k
  induction k with
  | zero => intro _; exact ⟨fun _ => b, rfl, rfl, fun e h => absurd h (Nat.not_lt_zero _), fun e h => absurd h (Nat.not_lt_zero _), fun p q _ => rfl⟩
  | succ k ih =>
    intro hk
    obtain ⟨lo, l0, ld, lm, lg_, lu⟩ := ih (by omega)
    have htk := hw k (by omega)
    have ht10 := ht (b + k)
    have hc := tk_c (tm (b + k))
    have hdp : dp tm b (k + 1) = dp tm b k + 1 - tk (tm (b + k)) := rfl
    have hev : ev tl tm b (k + 1) = sm tl (tm (b + k)) (dp tm b k) (ev tl tm b k) := rfl
    have hgl : gl tm b G0 (k + 1) = gst (tm (b + k)) (b + k) (dp tm b k) (gl tm b G0 k) := rfl
    rw [hdp, hev, hgl]
    generalize dp tm b k = d at *
    generalize gl tm b G0 k = s at *
    generalize ev tl tm b k = A at *
    obtain ⟨F, T, E, G⟩ := s
    dsimp only at lg_ lu
    have fresh : ∀ p q, b + k ≤ p → G p q = false := fun p q h => by rw [lu p q (Or.inr h)]; exact hG0 p q (by omega)
    generalize et : tm (b + k) = t at *
    have mono : ∀ e e', e ≤ e' → e' ≤ d → lo e ≤ lo e' := fun e e' h1 h2 => by
      have := lo_mono lm (e := e) (e' - e) (by omega)
      rwa [show e + (e' - e) = e' by omega] at this
    by_cases c0 : t < 5
    · have e0 := hc.1 c0
      rw [e0, Nat.sub_zero]
      unfold gst sm
      rw [if_pos c0, if_pos c0]
      refine ⟨fun e => if e = d + 1 then b + k + 1 else lo e, ?_, ?_, fun e he => ?_, fun e he => ?_, fun p q h => lu p q (by omega)⟩
      · dsimp only; rw [if_neg (by omega)]; exact l0
      · dsimp only; rw [if_pos rfl]; rfl
      · dsimp only
        rw [if_neg (by omega)]
        by_cases c : e = d
        · subst c; rw [if_pos rfl, ld]; omega
        · rw [if_neg (by omega)]; exact lm e (by omega)
      · dsimp only
        rw [if_neg (show ¬ e = d + 1 by omega)]
        unfold ub ue us
        by_cases c : e = d
        · subst c
          simp only [if_true]
          rw [ld]
          refine gok_let (fun q => fresh _ q (by omega)) (fun i => ?_)
          unfold rdp; rw [et]
        · rw [if_neg (show ¬ e + 1 = d + 1 by omega)]
          simp only [c, if_false]
          exact lg_ e (by omega)
    by_cases c2 : t = 5 ∨ t = 6
    · have e2 := hc.2.1 c2
      have hd2 : 2 ≤ d := by omega
      have g1 := lg_ (d - 2) (by omega)
      have g2 := lg_ (d - 1) (by omega)
      rw [show d - 2 + 1 = d - 1 by omega] at g1
      rw [show d - 1 + 1 = d by omega, ld] at g2
      have m1 := lm (d - 2) (by omega)
      rw [show d - 2 + 1 = d - 1 by omega] at m1
      have m2 := lm (d - 1) (by omega)
      rw [show d - 1 + 1 = d by omega, ld] at m2
      rw [e2]
      refine ⟨fun e => if e = d - 1 then b + k + 1 else lo e, ?_, ?_, fun e he => ?_, fun e he => ?_, fun p q h => ?_⟩
      · dsimp only; rw [if_neg (by omega)]; exact l0
      · dsimp only; rw [if_pos (by omega)]; rfl
      · dsimp only
        rw [if_neg (by omega)]
        by_cases c : e + 1 = d - 1
        · rw [if_pos c]
          have := mono e d (by omega) (by omega)
          rw [ld] at this; omega
        · rw [if_neg c]; exact lm e (by omega)
      · dsimp only
        rw [if_neg (show ¬ e = d - 1 by omega)]
        by_cases c : e = d - 2
        · subst c
          rw [if_pos (show d - 2 + 1 = d - 1 by omega)]
          unfold gst sm ub ue us
          rcases c2 with c5 | c6
          · rw [if_neg c0, if_pos c5, if_neg c0, if_pos c5]
            simp only [if_true]
            refine gok_hi (gok_th m1 m2 g1 g2) (by omega) (fun p q x y => ?_)
            rw [fresh p q x]
            have : T (d - 2) p = false := by
              cases h : T (d - 2) p with
              | false => rfl
              | true => have := g1.2.1 p h; omega
            rw [this]; rfl
          · rw [if_neg c0, if_neg (by omega), if_pos c6, if_neg c0, if_neg (by omega), if_pos c6]
            simp only [if_true]
            exact gok_hi (gok_or m1 m2 g1 g2) (by omega) (fun p q x y => fresh p q x)
        · rw [if_neg (show ¬ e + 1 = d - 1 by omega)]
          unfold gst sm ub ue us
          rcases c2 with c5 | c6
          · rw [if_neg c0, if_pos c5, if_neg c0, if_pos c5]
            simp only [c, if_false]
            refine gok_loc (lg_ e (by omega)) (fun p q x y => ?_)
            have : T (d - 2) p = false := by
              cases h : T (d - 2) p with
              | false => rfl
              | true =>
                have := g1.2.1 p h
                have := mono (e + 1) (d - 2) (by omega) (by omega)
                omega
            rw [this]; simp
          · rw [if_neg c0, if_neg (by omega), if_pos c6, if_neg c0, if_neg (by omega), if_pos c6]
            simp only [c, if_false]
            exact lg_ e (by omega)
      · unfold gst
        rcases c2 with c5 | c6
        · rw [if_neg c0, if_pos c5]
          dsimp only
          have : T (d - 2) p = false := by
            cases h : T (d - 2) p with
            | false => rfl
            | true =>
              have := g1.2.1 p h
              have := mono 0 (d - 2) (by omega) (by omega)
              omega
          rw [this, lu p q (by omega)]; simp
        · rw [if_neg c0, if_neg (by omega), if_pos c6]
          exact lu p q (by omega)
    have n5 : ¬ t = 5 := fun z => c2 (Or.inl z)
    have n6 : ¬ t = 6 := fun z => c2 (Or.inr z)
    have e1 := hc.2.2 (by omega)
    have hd1 : 1 ≤ d := by omega
    have g1 := lg_ (d - 1) (by omega)
    rw [show d - 1 + 1 = d by omega, ld] at g1
    have m1 := lm (d - 1) (by omega)
    rw [show d - 1 + 1 = d by omega, ld] at m1
    rw [e1, Nat.add_sub_cancel]
    have hno : ∀ p, (p < lo (d - 1) ∨ b + k ≤ p) → T (d - 1) p = false := by
      intro p hp
      cases h : T (d - 1) p with
      | false => rfl
      | true => have := g1.2.1 p h; omega
    refine ⟨fun e => if e = d then b + k + 1 else lo e, ?_, ?_, fun e he => ?_, fun e he => ?_, fun p q h => ?_⟩
    · dsimp only; rw [if_neg (by omega)]; exact l0
    · dsimp only; rw [if_pos rfl]; rfl
    · dsimp only
      rw [if_neg (by omega)]
      by_cases c : e + 1 = d
      · rw [if_pos c]
        have := mono e d (by omega) (by omega)
        rw [ld] at this; omega
      · rw [if_neg c]; exact lm e (by omega)
    · dsimp only
      rw [if_neg (show ¬ e = d by omega)]
      by_cases c : e = d - 1
      · subst c
        rw [if_pos (show d - 1 + 1 = d by omega)]
        unfold gst sm ub ue us
        rw [if_neg c0, if_neg c0, if_neg n5, if_neg n5, if_neg n6, if_neg n6]
        by_cases c7 : t = 7
        · rw [if_pos c7, if_pos c7]
          simp only [if_true]
          refine gok_hi (gok_pl g1 true _ (fun i => ⟨fun _ => rfl, fun _ => Or.inl rfl⟩) (fun i j h => ?_) (fun i j h => ⟨fun z => z.resolve_left (by omega), fun z => Or.inr z⟩)) (by omega) (fun p q x y => ?_)
          · rcases h with h | ⟨w, h⟩
            · omega
            · have := pl_lt w i j h; omega
          · rw [fresh p q x, hno p (Or.inr x)]; rfl
        rw [if_neg c7, if_neg c7]
        by_cases c8 : t = 8
        · rw [if_pos c8, if_pos c8]
          simp only [if_true]
          refine gok_hi (gok_pl g1 (E (d - 1)) _ (fun i => ⟨fun z => ?_, fun z => Or.inl ((g1.2.2.2.1 i).mpr z)⟩) (fun i j h => ?_) (fun i j h => ⟨fun z => z.elim (fun y => pl_one h y) id, fun z => Or.inr z⟩)) (by omega) (fun p q x y => ?_)
          · rcases z with z | ⟨w, z⟩
            · exact (g1.2.2.2.1 i).mp z
            · have := pl_lt w i i z; omega
          · rcases h with h | ⟨w, h⟩
            · exact g1.2.2.2.2.1 i j h
            · have := pl_lt w i j h; omega
          · rw [fresh p q x, hno p (Or.inr x)]; rfl
        rw [if_neg c8, if_neg c8]
        simp only [if_true]
        exact gok_hi (gok_em g1) (by omega) (fun p q x y => fresh p q x)
      · rw [if_neg (show ¬ e + 1 = d by omega)]
        have hle : lo (e + 1) ≤ lo (d - 1) := mono (e + 1) (d - 1) (by omega) (by omega)
        have ge := lg_ e (by omega)
        have gx : gok (rdp tm tl) (lo e) (lo (e + 1)) (F e) (T e) (E e) (fun p q => G p q || (T (d - 1) p && F (d - 1) q)) (A e) := gok_loc ge (fun p q x y => by rw [hno p (Or.inl (by omega))]; simp)
        unfold gst sm ub ue us
        rw [if_neg c0, if_neg c0, if_neg n5, if_neg n5, if_neg n6, if_neg n6]
        by_cases c7 : t = 7
        · rw [if_pos c7, if_pos c7]
          simp only [c, if_false]
          exact gx
        rw [if_neg c7, if_neg c7]
        by_cases c8 : t = 8
        · rw [if_pos c8, if_pos c8]
          simp only [c, if_false]
          exact gx
        rw [if_neg c8, if_neg c8]
        simp only [c, if_false]
        exact ge
    · have hl0 : lo 0 ≤ lo (d - 1) := mono 0 (d - 1) (by omega) (by omega)
      unfold gst
      rw [if_neg c0, if_neg n5, if_neg n6]
      by_cases c7 : t = 7
      · rw [if_pos c7]
        dsimp only
        rw [hno p (by omega), lu p q (by omega)]; simp
      rw [if_neg c7]
      by_cases c8 : t = 8
      · rw [if_pos c8]
        dsimp only
        rw [hno p (by omega), lu p q (by omega)]; simp
      rw [if_neg c8]
      exact lu p q (by omega)
/-- heads, tails and followers are letters of the rule -/
theorem gl_sup {tm : Nat → Nat} {b : Nat} {G0 : Nat → Nat → Bool} : ∀ k, (∀ e q, (gl tm b G0 k).1 e q = true → b ≤ q ∧ q < b + k ∧ tm q < 5) ∧ (∀ e q, (gl tm b G0 k).2.1 e q = true → b ≤ q ∧ q < b + k ∧ tm q < 5) ∧
    (∀ p q, (gl tm b G0 k).2.2.2 p q = true → G0 p q = true ∨ ((b ≤ p ∧ p < b + k ∧ tm p < 5) ∧ (b ≤ q ∧ q < b + k ∧ tm q < 5))) := by
  intro k
  induction k with
  | zero => exact ⟨fun e q h => absurd h (show ¬ (false = true) by decide), fun e q h => absurd h (show ¬ (false = true) by decide), fun p q h => Or.inl h⟩
  | succ k ih =>
    have hgl : gl tm b G0 (k + 1) = gst (tm (b + k)) (b + k) (dp tm b k) (gl tm b G0 k) := rfl
    rw [hgl]
    generalize dp tm b k = d at *
    generalize gl tm b G0 k = s at *
    obtain ⟨F, T, E, G⟩ := s
    obtain ⟨h1, h2, h3⟩ := ih
    dsimp only at h1 h2 h3
    have w1 : ∀ e q, F e q = true → b ≤ q ∧ q < b + (k + 1) ∧ tm q < 5 := fun e q h => by have := h1 e q h; omega
    have w2 : ∀ e q, T e q = true → b ≤ q ∧ q < b + (k + 1) ∧ tm q < 5 := fun e q h => by have := h2 e q h; omega
    have w3 : ∀ p q, G p q = true → G0 p q = true ∨ ((b ≤ p ∧ p < b + (k + 1) ∧ tm p < 5) ∧ (b ≤ q ∧ q < b + (k + 1) ∧ tm q < 5)) := fun p q h => (h3 p q h).imp id (fun z => by omega)
    have w4 : ∀ e e' p q, (G p q || (T e p && F e' q)) = true → G0 p q = true ∨ ((b ≤ p ∧ p < b + (k + 1) ∧ tm p < 5) ∧ (b ≤ q ∧ q < b + (k + 1) ∧ tm q < 5)) := by
      intro e e' p q h
      rw [Bool.or_eq_true, Bool.and_eq_true] at h
      rcases h with h | ⟨x, y⟩
      · exact w3 p q h
      · exact Or.inr ⟨w2 e p x, w1 e' q y⟩
    unfold gst ub
    by_cases c0 : tm (b + k) < 5
    · rw [if_pos c0]
      refine ⟨fun e q h => ?_, fun e q h => ?_, w3⟩
      · dsimp only at h
        split at h
        · have : q = b + k := by simpa using h
          subst this; omega
        · exact w1 e q h
      · dsimp only at h
        split at h
        · have : q = b + k := by simpa using h
          subst this; omega
        · exact w2 e q h
    rw [if_neg c0]
    by_cases c5 : tm (b + k) = 5
    · rw [if_pos c5]
      refine ⟨fun e q h => ?_, fun e q h => ?_, w4 _ _⟩
      · dsimp only at h
        split at h
        · rw [Bool.or_eq_true, Bool.and_eq_true] at h
          exact h.elim (w1 _ q) (fun z => w1 _ q z.2)
        · exact w1 e q h
      · dsimp only at h
        split at h
        · rw [Bool.or_eq_true, Bool.and_eq_true] at h
          exact h.elim (w2 _ q) (fun z => w2 _ q z.2)
        · exact w2 e q h
    rw [if_neg c5]
    by_cases c6 : tm (b + k) = 6
    · rw [if_pos c6]
      refine ⟨fun e q h => ?_, fun e q h => ?_, w3⟩
      · dsimp only at h
        split at h
        · rw [Bool.or_eq_true] at h
          exact h.elim (w1 _ q) (w1 _ q)
        · exact w1 e q h
      · dsimp only at h
        split at h
        · rw [Bool.or_eq_true] at h
          exact h.elim (w2 _ q) (w2 _ q)
        · exact w2 e q h
    rw [if_neg c6]
    by_cases c7 : tm (b + k) = 7
    · rw [if_pos c7]; exact ⟨w1, w2, w4 _ _⟩
    rw [if_neg c7]
    by_cases c8 : tm (b + k) = 8
    · rw [if_pos c8]; exact ⟨w1, w2, w4 _ _⟩
    rw [if_neg c8]; exact ⟨w1, w2, w3⟩
def FR (tm sz : Nat → Nat) (r q : Nat) : Bool := decide (0 < sz r) && (gl tm (8 * r) (gG tm sz r) (sz r)).1 0 q
def TR (tm sz : Nat → Nat) (r q : Nat) : Bool := decide (0 < sz r) && (gl tm (8 * r) (gG tm sz r) (sz r)).2.1 0 q
def sta (tm sz : Nat → Nat) : Nat → Nat → Bool
  | 0 => fun _ => false
  | r + 1 => fun q => sta tm sz r q || FR tm sz r q
/-- the rules are well formed, their terms and lengths within -/
def rwf (tm sz : Nat → Nat) : Prop := (∀ k, tm k < 10) ∧ (∀ r, sz r ≤ 8) ∧ ∀ r, r < 4 → wf_ tm (8 * r) (sz r)
theorem gG_f {tm sz : Nat → Nat} (h : ∀ r, sz r ≤ 8) : ∀ r p q, 8 * r ≤ p → gG tm sz r p q = false
  | 0, p, q, _ => rfl
  | r + 1, p, q, hp => by
    cases hh : gG tm sz (r + 1) p q with
    | false => rfl
    | true =>
      have h8 := h r
      rcases (gl_sup (tm := tm) (b := 8 * r) (G0 := gG tm sz r) (sz r)).2.2 p q hh with z | z
      · rw [gG_f h r p q (by omega)] at z; exact absurd z (by decide)
      · omega
theorem gG_l {tm sz : Nat → Nat} (h : rwf tm sz) : ∀ x r p q, r + 1 + x ≤ 4 → p < 8 * (r + 1) → gG tm sz (r + 1 + x) p q = gG tm sz (r + 1) p q
  | 0, r, p, q, _, _ => rfl
  | x + 1, r, p, q, hx, hp => by
    rw [← gG_l h x r p q (by omega) hp]
    obtain ⟨lo, -, -, -, -, lu⟩ := gl_inv (tl := fun _ => 0) (n := sz (r + 1 + x)) (G0 := gG tm sz (r + 1 + x)) (h.2.2 (r + 1 + x) (by omega)).1 h.1 (fun p q hp => gG_f h.2.1 _ p q hp) (sz (r + 1 + x)) (Nat.le_refl _)
    exact lu p q (Or.inl (by omega))
theorem gok_rule {tm sz tl : Nat → Nat} (h : rwf tm sz) {r : Nat} (hr : r < 4) : ∃ E, gok (rdp tm tl) (8 * r) (8 * r + 8) (FR tm sz r) (TR tm sz r) E (gG tm sz 4) (lg tl tm sz r) := by
  have h8 := h.2.1 r
  obtain ⟨lo, l0, ld, lm, lgo, lu⟩ := gl_inv (tl := tl) (n := sz r) (G0 := gG tm sz r) (h.2.2 r hr).1 h.1 (fun p q hp => gG_f h.2.1 _ p q hp) (sz r) (Nat.le_refl _)
  have e4 : ∀ p q, p < 8 * (r + 1) → gG tm sz 4 p q = gG tm sz (r + 1) p q := fun p q hp => by
    have := gG_l h (3 - r) r p q (by omega) hp
    rwa [show r + 1 + (3 - r) = 4 by omega] at this
  have fresh : ∀ p q, 8 * r + sz r ≤ p → p < 8 * (r + 1) → gG tm sz 4 p q = false := fun p q h1 h2 => by
    rw [e4 p q h2]
    exact (lu p q (Or.inr h1)).trans (gG_f h.2.1 r p q (by omega))
  rcases (h.2.2 r hr).2 with z | z
  · refine ⟨false, fun q hq => ?_, fun q hq => ?_, fun p q x y hq => ?_, fun i => ?_, fun i j hq => ?_, fun i m => ?_⟩
    · unfold FR at hq; rw [z] at hq; simp at hq
    · unfold TR at hq; rw [z] at hq; simp at hq
    · rw [fresh p q (by omega) (by omega)] at hq; exact absurd hq (by decide)
    · exact ⟨fun y => absurd y.1 (by omega), fun y => absurd y (by decide)⟩
    · exact absurd hq.1 (by omega)
    · refine ⟨fun ⟨q, _, y⟩ => ?_, fun y => absurd y.1 (by omega)⟩
      unfold TR at y; rw [z] at y; simp at y
  · have k0 : 0 < sz r := by
      rcases Nat.eq_zero_or_pos (sz r) with y | y
      · rw [y] at z; exact absurd z (by show ¬ (0 = 1); decide)
      · exact y
    have g := lgo 0 (by omega)
    rw [l0] at g
    rw [z] at ld
    rw [ld] at g
    have eF : FR tm sz r = (gl tm (8 * r) (gG tm sz r) (sz r)).1 0 := by funext q; unfold FR; simp [k0]
    have eT : TR tm sz r = (gl tm (8 * r) (gG tm sz r) (sz r)).2.1 0 := by funext q; unfold TR; simp [k0]
    have g2 := gok_cg g (B := lg tl tm sz r) (fun i j => ⟨fun y => ⟨k0, y⟩, fun y => y.2⟩)
    rw [← eF, ← eT] at g2
    have g3 := gok_loc g2 (G' := gG tm sz 4) (fun p q x y => (e4 p q (by omega)).symm)
    exact ⟨_, gok_hi g3 (by omega) (fun p q x y => fresh p q x (by omega))⟩
theorem rn_st {tm sz : Nat → Nat} {G : Nat → Nat → Bool} {rd : Nat → Nat → Prop} {i m q : Nat} : ∀ R, Rn G (sta tm sz R) rd i m q ↔ ∃ r, r < R ∧ Rn G (FR tm sz r) rd i m q
  | 0 => by
    constructor
    · intro h
      exfalso
      have : ∀ m q, ¬ Rn G (sta tm sz 0) rd i m q := by
        intro m
        induction m with
        | zero => intro q h; exact absurd h.1 (show ¬ (false = true) by decide)
        | succ m ih => rintro q ⟨p, a, _⟩; exact ih p a
      exact this m q h
    · rintro ⟨r, h, _⟩; omega
  | R + 1 => by
    show Rn G (fun q => sta tm sz R q || FR tm sz R q) rd i m q ↔ _
    rw [rn_or, rn_st R]
    constructor
    · rintro (⟨r, a, b⟩ | a)
      · exact ⟨r, by omega, b⟩
      · exact ⟨R, by omega, a⟩
    · rintro ⟨r, a, b⟩
      by_cases c : r = R
      · subst c; exact Or.inr b
      · exact Or.inl ⟨r, by omega, b⟩
/-- the automaton of places reads just what the rules stand for -/
theorem glu {tm sz tl : Nat → Nat} (h : rwf tm sz) {r : Nat} (hr : r < 4) (i m : Nat) : (∃ q, Rn (gG tm sz 4) (sta tm sz 4) (rdp tm tl) i m q ∧ TR tm sz r q = true) ↔ lg tl tm sz r i (i + m + 1) := by
  obtain ⟨E, g⟩ := gok_rule (tl := tl) h hr
  rw [← g.2.2.2.2.2 i m]
  constructor
  · rintro ⟨q, a, b⟩
    obtain ⟨r', hr', a⟩ := (rn_st 4).mp a
    obtain ⟨E', g'⟩ := gok_rule (tl := tl) h hr'
    have h1 := rn_in g'.1 g'.2.2.1 m q a
    have h2 := g.2.1 q b
    have : r' = r := by omega
    subst this
    exact ⟨q, a, b⟩
  · rintro ⟨q, a, b⟩
    exact ⟨q, (rn_st 4).mpr ⟨r, hr, a⟩, b⟩
