/-! items: what stands behind them, closures -/
def nxt (W : Nat → Nat) (R : Nat → Nat → Nat) (i : Nat) : Int32 := if i % 4 < W (i / 4) then nI (R (i / 4) (i % 4)) else -1
def bgF (L : Nat → Nat) (x : Int32) : Nat → Int64
  | 0 => 0
  | p + 1 => if nI (L p) = x then bgF L x p ||| ((1 : Int64) <<< ((nI (4 * p)).toInt64 &&& 63)) else bgF L x p
def rr (pc : Nat) (L W : Nat → Nat) (R : Nat → Nat → Nat) : Nat → Int64 → Int64
  | 0, a => a
  | i + 1, a => if bl (rr pc L W R i a) i then rr pc L W R i a ||| bgF L (nxt W R i) pc else rr pc L W R i a
def bhF (W : Nat → Nat) (R : Nat → Nat → Nat) (a : Int64) (x : Int32) : Nat → Int64
  | 0 => 0
  | i + 1 => if bl a i = true ∧ nxt W R i = x then bhF W R a x i ||| ((1 : Int64) <<< ((nI (i + 1)).toInt64 &&& 63)) else bhF W R a x i
def clo (pc : Nat) (L W : Nat → Nat) (R : Nat → Nat → Nat) (a : Int64) : Int64 := rr pc L W R 34 (rr pc L W R 34 (rr pc L W R 34 a))
theorem bg_b {L : Nat → Nat} {x : Int32} {j : Nat} : ∀ n, n ≤ 8 → (bl (bgF L x n) j = true ↔ ∃ p, p < n ∧ nI (L p) = x ∧ j = 4 * p)
  | 0, _ => ⟨fun h => by unfold bgF at h; rw [zb_0] at h; exact absurd h (by decide), fun ⟨p, h, _⟩ => absurd h (Nat.not_lt_zero _)⟩
  | n + 1, hn => by
    unfold bgF
    by_cases c : nI (L n) = x
    · rw [if_pos c, zb_or, Bool.or_eq_true, bg_b n (by omega), zb_one (by omega), decide_eq_true_eq]
      constructor
      · rintro (⟨p, a, b⟩ | a)
        · exact ⟨p, by omega, b⟩
        · exact ⟨n, by omega, c, a⟩
      · rintro ⟨p, a, b, d⟩
        by_cases e : p = n
        · subst e; exact Or.inr d
        · exact Or.inl ⟨p, by omega, b, d⟩
    · rw [if_neg c, bg_b n (by omega)]
      constructor
      · rintro ⟨p, a, b⟩; exact ⟨p, by omega, b⟩
      · rintro ⟨p, a, b, d⟩
        by_cases e : p = n
        · subst e; exact absurd b c
        · exact ⟨p, by omega, b, d⟩
theorem bh_b {W : Nat → Nat} {R : Nat → Nat → Nat} {a : Int64} {x : Int32} {j : Nat} : ∀ n, n ≤ 36 → (bl (bhF W R a x n) j = true ↔ ∃ i, i < n ∧ bl a i = true ∧ nxt W R i = x ∧ j = i + 1)
  | 0, _ => ⟨fun h => by unfold bhF at h; rw [zb_0] at h; exact absurd h (by decide), fun ⟨p, h, _⟩ => absurd h (Nat.not_lt_zero _)⟩
  | n + 1, hn => by
    unfold bhF
    by_cases c : bl a n = true ∧ nxt W R n = x
    · rw [if_pos c, zb_or, Bool.or_eq_true, bh_b n (by omega), zb_one (by omega), decide_eq_true_eq]
      constructor
      · rintro (⟨p, a, b⟩ | a)
        · exact ⟨p, by omega, b⟩
        · exact ⟨n, by omega, c.1, c.2, a⟩
      · rintro ⟨p, a, b, d, e'⟩
        by_cases e : p = n
        · subst e; exact Or.inr e'
        · exact Or.inl ⟨p, by omega, b, d, e'⟩
    · rw [if_neg c, bh_b n (by omega)]
      constructor
      · rintro ⟨p, a, b⟩; exact ⟨p, by omega, b⟩
      · rintro ⟨p, a, b, d, e'⟩
        by_cases e : p = n
        · subst e; exact absurd ⟨b, d⟩ c
        · exact ⟨p, by omega, b, d, e'⟩
section
variable {pc : Nat} {L W : Nat → Nat} {R : Nat → Nat → Nat}
theorem rr_le {a : Int64} {j : Nat} (h : bl a j = true) : ∀ n, bl (rr pc L W R n a) j = true
  | 0 => h
  | n + 1 => by
    unfold rr
    split
    · rw [zb_or, rr_le h n, Bool.true_or]
    · exact rr_le h n
theorem rr_s {a : Int64} {i : Nat} : rr pc L W R (i + 1) a = if bl (rr pc L W R i a) i then rr pc L W R i a ||| bgF L (nxt W R i) pc else rr pc L W R i a := rfl
theorem rr_up {a : Int64} {j n : Nat} (h : bl (rr pc L W R n a) j = true) : ∀ x, bl (rr pc L W R (n + x) a) j = true
  | 0 => h
  | x + 1 => by
    rw [← Nat.add_assoc, rr_s]
    split
    · rw [zb_or, rr_up h x, Bool.true_or]
    · exact rr_up h x
theorem rr_or {a : Int64} {j : Nat} : ∀ n, bl (rr pc L W R n a) j = true → bl a j = true ∨ ∃ i, i < n ∧ bl (rr pc L W R n a) i = true ∧ bl (bgF L (nxt W R i) pc) j = true
  | 0, h => Or.inl h
  | n + 1, h => by
    have hm : ∀ i, bl (rr pc L W R n a) i = true → bl (rr pc L W R (n + 1) a) i = true := fun i hi => rr_up hi 1
    have old : bl (rr pc L W R n a) j = true → bl a j = true ∨ ∃ i, i < n + 1 ∧ bl (rr pc L W R (n + 1) a) i = true ∧ bl (bgF L (nxt W R i) pc) j = true := by
      intro h
      rcases rr_or n h with z | ⟨i, x, y, z⟩
      · exact Or.inl z
      · exact Or.inr ⟨i, by omega, hm i y, z⟩
    by_cases c : bl (rr pc L W R n a) n = true
    · have e : rr pc L W R (n + 1) a = rr pc L W R n a ||| bgF L (nxt W R n) pc := by rw [rr_s, if_pos c]
      rw [e, zb_or, Bool.or_eq_true] at h
      rcases h with h | h
      · exact old h
      · exact Or.inr ⟨n, by omega, hm n c, h⟩
    · have e : rr pc L W R (n + 1) a = rr pc L W R n a := by rw [rr_s, if_neg c]
      rw [e] at h
      exact old h
/-- closed: what an item stands before is begun -/
theorem rr_fix {a : Int64} (h : ∀ i j, i < 34 → bl a i = true → bl (bgF L (nxt W R i) pc) j = true → bl a j = true) : ∀ n, n ≤ 34 → rr pc L W R n a = a
  | 0, _ => rfl
  | n + 1, hn => by
    unfold rr
    rw [rr_fix h n (by omega)]
    split
    · next c =>
      apply zb_ext
      intro j _
      rw [zb_or]
      cases z : bl (bgF L (nxt W R n) pc) j with
      | false => rw [Bool.or_false]
      | true => rw [h n j (by omega) c z]; rfl
    · rfl
theorem rr_new {a : Int64} : ∀ n, n ≤ 34 → rr pc L W R n a ≠ a → ∃ i, i < n ∧ (∀ j, bl (bgF L (nxt W R i) pc) j = true → bl (rr pc L W R n a) j = true) ∧ ∃ j, bl (bgF L (nxt W R i) pc) j = true ∧ bl a j = false
  | 0, _, h => absurd rfl h
  | n + 1, hn, h => by
    by_cases c : rr pc L W R n a = a
    · unfold rr at h
      rw [c] at h
      by_cases c2 : bl a n = true
      · rw [if_pos c2] at h
        refine ⟨n, by omega, fun j hj => ?_, ?_⟩
        · unfold rr
          rw [c, if_pos c2, zb_or, hj, Bool.or_true]
        · refine Classical.byContradiction (fun hno => h (zb_ext fun j _ => ?_))
          rw [zb_or]
          cases z : bl (bgF L (nxt W R n) pc) j with
          | false => rw [Bool.or_false]
          | true =>
            cases y : bl a j with
            | true => rfl
            | false => exact absurd ⟨j, z, y⟩ hno
      · rw [if_neg c2] at h; exact absurd rfl h
    · obtain ⟨i, x, y, z⟩ := rr_new n (by omega) c
      exact ⟨i, by omega, fun j hj => rr_up (y j hj) 1, z⟩
theorem rr_x {a : Int64} (hL : ∀ p, p < pc → 10 ≤ L p ∧ L p < 13) (hpc : pc ≤ 8) (h : rr pc L W R 34 a ≠ a) : ∃ x, (10 ≤ x ∧ x < 13) ∧ (∀ j, bl (bgF L (nI x) pc) j = true → bl (rr pc L W R 34 a) j = true) ∧ ∃ j, bl (bgF L (nI x) pc) j = true ∧ bl a j = false := by
  obtain ⟨i, -, x, j, y, z⟩ := rr_new 34 (Nat.le_refl _) h
  obtain ⟨p, hp, e, -⟩ := (bg_b pc hpc).mp y
  rw [← e] at x y
  exact ⟨L p, hL p hp, x, j, y, z⟩
theorem rr_3 {a : Int64} (hL : ∀ p, p < pc → 10 ≤ L p ∧ L p < 13) (hpc : pc ≤ 8) : rr pc L W R 34 (clo pc L W R a) = clo pc L W R a := by
  unfold clo
  generalize e1 : rr pc L W R 34 a = a1
  generalize e2 : rr pc L W R 34 a1 = a2
  generalize e3 : rr pc L W R 34 a2 = a3
  by_cases c3 : rr pc L W R 34 a3 = a3
  · exact c3
  exfalso
  have m1 : ∀ j, bl a j = true → bl a1 j = true := fun j h => by rw [← e1]; exact rr_le h 34
  have m2 : ∀ j, bl a1 j = true → bl a2 j = true := fun j h => by rw [← e2]; exact rr_le h 34
  have m3 : ∀ j, bl a2 j = true → bl a3 j = true := fun j h => by rw [← e3]; exact rr_le h 34
  have c2 : rr pc L W R 34 a2 ≠ a2 := fun z => c3 (by rw [← e3, z, z])
  have c1 : rr pc L W R 34 a1 ≠ a1 := fun z => c2 (by rw [← e2, z, z])
  have c0 : rr pc L W R 34 a ≠ a := fun z => c1 (by rw [← e1, z, z])
  obtain ⟨x0, r0, s0, j0, t0, u0⟩ := rr_x hL hpc c0
  obtain ⟨x1, r1, s1, j1, t1, u1⟩ := rr_x hL hpc c1
  obtain ⟨x2, r2, s2, j2, t2, u2⟩ := rr_x hL hpc c2
  obtain ⟨x3, r3, s3, j3, t3, u3⟩ := rr_x hL hpc c3
  rw [e1] at s0
  rw [e2] at s1
  rw [e3] at s2
  have ne : ∀ {x y j : Nat} {b : Int64}, (∀ j, bl (bgF L (nI x) pc) j = true → bl b j = true) → bl (bgF L (nI y) pc) j = true → bl b j = false → x ≠ y := by
    intro x y j b h1 h2 h3 e
    subst e
    rw [h1 j h2] at h3; exact absurd h3 (by decide)
  have n01 := ne s0 t1 u1
  have n02 := ne (fun j h => m2 j (s0 j h)) t2 u2
  have n03 := ne (fun j h => m3 j (m2 j (s0 j h))) t3 u3
  have n12 := ne s1 t2 u2
  have n13 := ne (fun j h => m3 j (s1 j h)) t3 u3
  have n23 := ne s2 t3 u3
  omega
theorem clo_le {a : Int64} {j : Nat} (h : bl a j = true) : bl (clo pc L W R a) j = true := rr_le (rr_le (rr_le h 34) 34) 34
theorem clo_cl {a : Int64} (hL : ∀ p, p < pc → 10 ≤ L p ∧ L p < 13) (hpc : pc ≤ 8) {i j : Nat} (hi : i < 34) (h : bl (clo pc L W R a) i = true) (hj : bl (bgF L (nxt W R i) pc) j = true) : bl (clo pc L W R a) j = true := by
  have e := rr_3 (a := a) (W := W) (R := R) hL hpc
  generalize clo pc L W R a = c at *
  rw [← e]
  have h1 : bl (rr pc L W R (i + 1) c) j = true := by
    unfold rr
    rw [if_pos (rr_le h i), zb_or, hj, Bool.or_true]
  have := rr_up h1 (33 - i)
  rw [show i + 1 + (33 - i) = 34 by omega] at this
  exact this
theorem clo_or {a : Int64} {j : Nat} (h : bl (clo pc L W R a) j = true) : bl a j = true ∨ ∃ i, i < 34 ∧ bl (clo pc L W R a) i = true ∧ bl (bgF L (nxt W R i) pc) j = true := by
  unfold clo at h ⊢
  rcases rr_or 34 h with h | h
  · rcases rr_or 34 h with h | ⟨i, x, y, z⟩
    · rcases rr_or 34 h with h | ⟨i, x, y, z⟩
      · exact Or.inl h
      · exact Or.inr ⟨i, x, rr_le (rr_le y 34) 34, z⟩
    · exact Or.inr ⟨i, x, rr_le y 34, z⟩
  · exact Or.inr h
theorem clo_0 : clo pc L W R 0 = 0 := by
  have : rr pc L W R 34 0 = 0 := rr_fix (fun i j _ h => by rw [zb_0] at h; exact absurd h (by decide)) 34 (Nat.le_refl _)
  unfold clo; rw [this, this, this]
theorem rr_36 {a : Int64} (h : ∀ j, 34 ≤ j → bl a j = false) (hpc : pc ≤ 8) : rr pc L W R 36 a = rr pc L W R 34 a ∧ ∀ j, 34 ≤ j → bl (rr pc L W R 34 a) j = false := by
  have h34 : ∀ j, 34 ≤ j → bl (rr pc L W R 34 a) j = false := by
    intro j hj
    cases z : bl (rr pc L W R 34 a) j with
    | false => rfl
    | true =>
      rcases rr_or 34 z with y | ⟨i, _, _, y⟩
      · rw [h j hj] at y; exact absurd y (by decide)
      · obtain ⟨p, hp, _, e⟩ := (bg_b pc hpc).mp y
        omega
  refine ⟨?_, h34⟩
  have e35 : rr pc L W R (34 + 1) a = rr pc L W R 34 a := by
    rw [rr_s, if_neg (by rw [h34 34 (by omega)]; decide)]
  have e36 : rr pc L W R (34 + 1 + 1) a = rr pc L W R 34 a := by
    rw [rr_s, e35, if_neg (by rw [h34 35 (by omega)]; decide)]
  exact e36
theorem clo_Y {a : Int64} (hL : ∀ p, p < pc → 10 ≤ L p ∧ L p < 13) (hpc : pc ≤ 8) (h : ∀ j, 34 ≤ j → bl a j = false) :
    rr pc L W R 36 (rr pc L W R 36 (rr pc L W R 36 (rr pc L W R 36 a))) = clo pc L W R a ∧ ∀ j, 34 ≤ j → bl (clo pc L W R a) j = false := by
  obtain ⟨a1, b1⟩ := rr_36 (L := L) (W := W) (R := R) h hpc
  obtain ⟨a2, b2⟩ := rr_36 (L := L) (W := W) (R := R) b1 hpc
  obtain ⟨a3, b3⟩ := rr_36 (L := L) (W := W) (R := R) b2 hpc
  obtain ⟨a4, b4⟩ := rr_36 (L := L) (W := W) (R := R) b3 hpc
  rw [a1, a2, a3, a4]
  exact ⟨rr_3 hL hpc, b3⟩
end
section
variable {f_productionCount f_textLength f_anythingBuilt f_tokenCount f_parseValue f_parsePlace : Int32} {a_ruleTerms a_ruleLengths a_skips a_grammar a_ranks a_groupings a_text a_heads a_tails a_empties a_placeLetters a_followers a_ruleEnds : Nat → Int32} {a_sets : Nat → Int64} {a_steps a_classes a_finerClasses : Nat → Int32} {a_states : Nat → Int64} {a_moves a_begins a_lookaheads a_builtCounts a_builtSteps a_builtMatches a_builtSkips a_builtGrammar a_builtMoves a_builtActions a_tokenRules a_tokenBegins a_tokenEnds a_stackStates a_stackValues : Nat → Int32} {pc : Nat} {L W : Nat → Nat} {R : Nat → Nat → Nat}
theorem xy_ {post : Int32 → Prop} {i : Nat} (hi : i < 36) (hV : gr_V pc L W R) (hX : gr_X a_grammar L W R) (H : post (nxt W R i)) : wpX_symbolBehind post (f_productionCount, f_textLength, f_anythingBuilt, f_tokenCount, f_parseValue, f_parsePlace, a_ruleTerms, a_ruleLengths, a_skips, a_grammar, a_ranks, a_groupings, a_text, a_heads, a_tails, a_empties, a_placeLetters, a_followers, a_ruleEnds, a_sets, a_steps, a_classes, a_finerClasses, a_states, a_moves, a_begins, a_lookaheads, a_builtCounts, a_builtSteps, a_builtMatches, a_builtSkips, a_builtGrammar, a_builtMoves, a_builtActions, a_tokenRules, a_tokenBegins, a_tokenEnds, a_stackStates, a_stackValues) (nI i) := by
  obtain ⟨g1, g2, g3⟩ := hX (i / 4) (by omega)
  have hw := (hV.2.1 (i / 4)).2.1
  unfold wpX_symbolBehind
  dsimp only
  rw [show (4 : Int32) = nI 4 from rfl, pk_rem (by omega) (by omega) (by omega), pk_div (by omega) (by omega) (by omega), show nI (i / 4) * 7 = nI (7 * (i / 4)) from by rw [show (7 : Int32) = nI 7 from rfl, pk_mul]; congr 1; omega]
  refine ⟨by decide, nm_e ⟨by decide, nm_e ?_⟩⟩
  rw [show nI (7 * (i / 4)) + 1 = nI (7 * (i / 4) + 1) from nI_1 _, show nI (7 * (i / 4)) + 2 = nI (7 * (i / 4) + 2) from nI_add _ 2, nI_add, nI_clamp (by omega), nI_clamp (show 7 * (i / 4) + 2 + i % 4 < 2 ^ 31 by omega), g2]
  refine ⟨vp_in_nI (by omega) (by omega), ?_⟩
  unfold nxt at H
  refine pk_le (W (i / 4)) (i % 4) (fun c => ?_) (fun c => ?_)
  · rw [if_neg (by omega)] at H; exact H
  · rw [if_pos c] at H
    rw [g3 _ c]
    exact ⟨vp_in_nI (by omega) (by omega), H⟩
theorem xg_5 {post : Int64 → Prop} {x : Int32} (hV : gr_V pc L W R) (hX : gr_X a_grammar L W R) (H : post (bgF L x pc)) : ∀ d p, p + d = pc → wX_beginningsOf_5 post x (nI pc) f_textLength f_anythingBuilt f_tokenCount f_parseValue f_parsePlace a_ruleTerms a_ruleLengths a_skips a_grammar a_ranks a_groupings a_text a_heads a_tails a_empties a_placeLetters a_followers a_ruleEnds a_sets a_steps a_classes a_finerClasses a_states a_moves a_begins a_lookaheads a_builtCounts a_builtSteps a_builtMatches a_builtSkips a_builtGrammar a_builtMoves a_builtActions a_tokenRules a_tokenBegins a_tokenEnds a_stackStates a_stackValues (d + 1) (bgF L x p) (nI p) := by
  have hpc := hV.1
  intro d
  induction d with
  | zero =>
    intro p hp
    have : p = pc := by omega
    subst this
    exact pk_le 8 p (fun _ => H) (fun _ => pk_le p p (fun _ => H) (fun z => absurd z (by omega)))
  | succ d ih =>
    intro p hp
    have ih' := ih (p + 1) (by omega)
    unfold bgF at ih'
    refine pk_le 8 p (fun z => absurd z (by omega)) (fun _ => pk_le pc p (fun z => absurd z (by omega)) (fun _ => ?_))
    rw [show nI p * 7 + 0 = nI (7 * p) from by rw [show (7 : Int32) = nI 7 from rfl, show (0 : Int32) = nI 0 from rfl, pk_mul, nI_add]; congr 1; omega, nI_clamp (by omega), (hX p (by omega)).1, show nI p * 4 = nI (4 * p) from by rw [show (4 : Int32) = nI 4 from rfl, pk_mul]; congr 1; omega]
    refine ⟨vp_in_nI (by omega) (by omega), br_c (fun c => ?_) (fun c => ?_)⟩
    · rw [if_pos c] at ih'
      exact nm_e (nm_r (nI_1 p) ih')
    · rw [if_neg c] at ih'
      exact nm_r (nI_1 p) ih'
theorem xg_b {post : Int64 → Prop} {x : Int32} (hV : gr_V pc L W R) (hX : gr_X a_grammar L W R) (H : post (bgF L x pc)) : wpX_beginningsOf post (nI pc, f_textLength, f_anythingBuilt, f_tokenCount, f_parseValue, f_parsePlace, a_ruleTerms, a_ruleLengths, a_skips, a_grammar, a_ranks, a_groupings, a_text, a_heads, a_tails, a_empties, a_placeLetters, a_followers, a_ruleEnds, a_sets, a_steps, a_classes, a_finerClasses, a_states, a_moves, a_begins, a_lookaheads, a_builtCounts, a_builtSteps, a_builtMatches, a_builtSkips, a_builtGrammar, a_builtMoves, a_builtActions, a_tokenRules, a_tokenBegins, a_tokenEnds, a_stackStates, a_stackValues) x := ⟨pc + 1, xg_5 hV hX H pc 0 (by omega)⟩
theorem xc_14 {post : Int64 → Prop} {J5 : Int64 → Int32 → Prop} {k : Nat} {a : Int64} (hV : gr_V pc L W R) (hX : gr_X a_grammar L W R) (H : J5 (rr pc L W R 34 a) (nI (k + 1))) : ∀ d i, i + d = 34 → wX_closureOf_14 post J5 (nI k) (nI pc) f_textLength f_anythingBuilt f_tokenCount f_parseValue f_parsePlace a_ruleTerms a_ruleLengths a_skips a_grammar a_ranks a_groupings a_text a_heads a_tails a_empties a_placeLetters a_followers a_ruleEnds a_sets a_steps a_classes a_finerClasses a_states a_moves a_begins a_lookaheads a_builtCounts a_builtSteps a_builtMatches a_builtSkips a_builtGrammar a_builtMoves a_builtActions a_tokenRules a_tokenBegins a_tokenEnds a_stackStates a_stackValues (d + 1) (rr pc L W R i a) (nI i) := by
  intro d
  induction d with
  | zero =>
    intro i hi
    have : i = 34 := by omega
    subst this
    exact pk_le 34 34 (fun _ => nm_r (nI_1 k) H) (fun z => absurd z (by omega))
  | succ d ih =>
    intro i hi
    have ih' := ih (i + 1) (by omega)
    rw [rr] at ih'
    refine pk_le 34 i (fun z => absurd z (by omega)) (fun _ => zb_b0 i (fun hb => nm_r (nI_1 i) ?_) (fun hb => xy_ (by omega) hV hX (xg_b hV hX (nm_e (nm_r (nI_1 i) ?_)))))
    · rw [if_neg (by rw [hb]; decide)] at ih'; exact ih'
    · rw [if_pos hb] at ih'; exact ih'
theorem xc_r {post : Int64 → Prop} {J5 : Int64 → Int32 → Prop} {k : Nat} {a : Int64} (hV : gr_V pc L W R) (hX : gr_X a_grammar L W R) (H : J5 (rr pc L W R 34 a) (nI (k + 1))) : ∃ n14 : Nat, wX_closureOf_14 post J5 (nI k) (nI pc) f_textLength f_anythingBuilt f_tokenCount f_parseValue f_parsePlace a_ruleTerms a_ruleLengths a_skips a_grammar a_ranks a_groupings a_text a_heads a_tails a_empties a_placeLetters a_followers a_ruleEnds a_sets a_steps a_classes a_finerClasses a_states a_moves a_begins a_lookaheads a_builtCounts a_builtSteps a_builtMatches a_builtSkips a_builtGrammar a_builtMoves a_builtActions a_tokenRules a_tokenBegins a_tokenEnds a_stackStates a_stackValues n14 a 0 :=
  ⟨35, xc_14 hV hX H 34 0 (by omega)⟩
theorem xcl {post : Int64 → Prop} {a : Int64} (hV : gr_V pc L W R) (hX : gr_X a_grammar L W R) (H : post (clo pc L W R a)) : wpX_closureOf post (nI pc, f_textLength, f_anythingBuilt, f_tokenCount, f_parseValue, f_parsePlace, a_ruleTerms, a_ruleLengths, a_skips, a_grammar, a_ranks, a_groupings, a_text, a_heads, a_tails, a_empties, a_placeLetters, a_followers, a_ruleEnds, a_sets, a_steps, a_classes, a_finerClasses, a_states, a_moves, a_begins, a_lookaheads, a_builtCounts, a_builtSteps, a_builtMatches, a_builtSkips, a_builtGrammar, a_builtMoves, a_builtActions, a_tokenRules, a_tokenBegins, a_tokenEnds, a_stackStates, a_stackValues) a := by
  unfold clo at H
  refine ⟨4, br_f (by decide) (xc_r (k := 0) hV hX ?_)⟩
  generalize rr pc L W R 34 a = a1 at H
  refine br_f (by decide) (xc_r (k := 1) hV hX ?_)
  generalize rr pc L W R 34 a1 = a2 at H
  refine br_f (by decide) (xc_r (k := 2) hV hX ?_)
  generalize rr pc L W R 34 a2 = a3 at H
  exact br_t (by decide) H
theorem xi_6 {post : Int64 → Prop} {a : Int64} {x : Int32} (hV : gr_V pc L W R) (hX : gr_X a_grammar L W R) (H : post (clo pc L W R (bhF W R a x 34))) : ∀ d i, i + d = 34 → wX_itemsBehind_6 post a x (nI pc) f_textLength f_anythingBuilt f_tokenCount f_parseValue f_parsePlace a_ruleTerms a_ruleLengths a_skips a_grammar a_ranks a_groupings a_text a_heads a_tails a_empties a_placeLetters a_followers a_ruleEnds a_sets a_steps a_classes a_finerClasses a_states a_moves a_begins a_lookaheads a_builtCounts a_builtSteps a_builtMatches a_builtSkips a_builtGrammar a_builtMoves a_builtActions a_tokenRules a_tokenBegins a_tokenEnds a_stackStates a_stackValues (d + 1) (bhF W R a x i) (nI i) := by
  intro d
  induction d with
  | zero =>
    intro i hi
    have : i = 34 := by omega
    subst this
    exact pk_le 34 34 (fun _ => xcl hV hX H) (fun z => absurd z (by omega))
  | succ d ih =>
    intro i hi
    have ih' := ih (i + 1) (by omega)
    rw [bhF] at ih'
    refine pk_le 34 i (fun z => absurd z (by omega)) (fun _ => zb_b0 i (fun hb => nm_r (nI_1 i) ?_) (fun hb => xy_ (by omega) hV hX (br_c (fun c => ?_) (fun c => nm_r (nI_1 i) ?_))))
    · rw [if_neg (fun z => by rw [hb] at z; exact absurd z.1 (by decide))] at ih'; exact ih'
    · rw [if_pos ⟨hb, c⟩] at ih'
      rw [nI_1 i]
      exact nm_e (nm_e ih')
    · rw [if_neg (fun z => c z.2)] at ih'; exact ih'
theorem xib {post : Int64 → Prop} {a : Int64} {x : Int32} (hV : gr_V pc L W R) (hX : gr_X a_grammar L W R) (H : post (clo pc L W R (bhF W R a x 34))) : wpX_itemsBehind post (nI pc, f_textLength, f_anythingBuilt, f_tokenCount, f_parseValue, f_parsePlace, a_ruleTerms, a_ruleLengths, a_skips, a_grammar, a_ranks, a_groupings, a_text, a_heads, a_tails, a_empties, a_placeLetters, a_followers, a_ruleEnds, a_sets, a_steps, a_classes, a_finerClasses, a_states, a_moves, a_begins, a_lookaheads, a_builtCounts, a_builtSteps, a_builtMatches, a_builtSkips, a_builtGrammar, a_builtMoves, a_builtActions, a_tokenRules, a_tokenBegins, a_tokenEnds, a_stackStates, a_stackValues) a x := ⟨35, xi_6 hV hX H 34 0 (by omega)⟩
end
section
variable {g_productions : Int32} {g_start : Int64} {g_sets g_states g_conflicts g_ready g_length g_tokens g_stuck g_scanned g_value g_place : Int32} {b_term b_size b_skipped b_left b_right b_width b_op b_constant b_rank b_grouping b_bTerm b_bSize b_bSkipped b_bLeft b_bWidth b_bOp b_bConstant : Nat → Int32} {b_follow b_ends b_first b_last : Nat → Int64} {b_none : Nat → Int32} {b_set : Nat → Int64} {b_leads b_apart : Nat → Int32} {b_state : Nat → Int64} {b_to b_look b_begins b_nullable b_act b_built b_leadTo b_text b_fits b_token b_stack b_worth : Nat → Int32} {pc : Nat} {L W : Nat → Nat} {R : Nat → Nat → Nat}
theorem yy_ {post : Int32 → Prop} {i : Nat} (hi : i < 36) (hV : gr_V pc L W R) (hY : gr_Y b_left b_right b_width L W R) (H : post (nxt W R i)) : wpY_next post (g_productions, g_start, g_sets, g_states, g_conflicts, g_ready, g_length, g_tokens, g_stuck, g_scanned, g_value, g_place, b_term, b_size, b_skipped, b_left, b_right, b_width, b_op, b_constant, b_rank, b_grouping, b_bTerm, b_bSize, b_bSkipped, b_bLeft, b_bWidth, b_bOp, b_bConstant, b_follow, b_ends, b_first, b_last, b_none, b_set, b_leads, b_apart, b_state, b_to, b_look, b_begins, b_nullable, b_act, b_built, b_leadTo, b_text, b_fits, b_token, b_stack, b_worth) (nI i) := by
  obtain ⟨g1, g2, g3⟩ := hY (i / 4) (by omega)
  have hw := (hV.2.1 (i / 4)).2.1
  unfold wpY_next
  dsimp only
  rw [show (4 : Int32) = nI 4 from rfl, pk_rem (by omega) (by omega) (by omega), pk_div (by omega) (by omega) (by omega), show 3 * nI (i / 4) + nI (i % 4) = nI (3 * (i / 4) + i % 4) from by rw [show (3 : Int32) = nI 3 from rfl, pk_mul, nI_add], nI_clamp (show i / 4 < 2 ^ 31 by omega), nI_clamp (show 3 * (i / 4) + i % 4 < 2 ^ 31 by omega), g2]
  refine ⟨by decide, by decide, vp_in_nI (by omega) (by omega), ?_⟩
  unfold nxt at H
  refine pk_le (W (i / 4)) (i % 4) (fun c => ?_) (fun c => ?_)
  · rw [if_neg (by omega)] at H; exact H
  · rw [if_pos c] at H
    rw [g3 _ c]
    exact ⟨by decide, by decide, vp_in_nI (by omega) (by omega), H⟩
theorem yg_5 {post : Int64 → Prop} {x : Int32} (hV : gr_V pc L W R) (hY : gr_Y b_left b_right b_width L W R) (H : post (bgF L x pc)) : ∀ d p, p + d = pc → wY_beginnings_5 post x (nI pc) g_start g_sets g_states g_conflicts g_ready g_length g_tokens g_stuck g_scanned g_value g_place b_term b_size b_skipped b_left b_right b_width b_op b_constant b_rank b_grouping b_bTerm b_bSize b_bSkipped b_bLeft b_bWidth b_bOp b_bConstant b_follow b_ends b_first b_last b_none b_set b_leads b_apart b_state b_to b_look b_begins b_nullable b_act b_built b_leadTo b_text b_fits b_token b_stack b_worth (d + 1) (bgF L x p) (nI p) := by
  have hpc := hV.1
  intro d
  induction d with
  | zero =>
    intro p hp
    have : p = pc := by omega
    subst this
    exact pk_le p p (fun _ => H) (fun z => absurd z (by omega))
  | succ d ih =>
    intro p hp
    have ih' := ih (p + 1) (by omega)
    unfold bgF at ih'
    have hL := hV.2.2.1 p (by omega)
    refine pk_le pc p (fun z => absurd z (by omega)) (fun _ => br_c (fun c => nm_r (nI_1 p) ?_) (fun c => ⟨vp_in_nI (by omega) (by omega), ?_⟩))
    · have : ¬ nI (L p) = x := by
        intro e
        rw [← e, show (9 : Int32) = nI 9 from rfl, nI_leI (by omega) (by omega)] at c
        omega
      rw [if_neg this] at ih'; exact ih'
    · rw [nI_clamp (show p < 2 ^ 31 by omega), (hY p (by omega)).1, show 4 * nI p = nI (4 * p) from by rw [show (4 : Int32) = nI 4 from rfl, pk_mul]]
      refine br_c (fun c => ?_) (fun c => ?_)
      · rw [if_pos c] at ih'
        exact nm_e (nm_r (nI_1 p) ih')
      · rw [if_neg c] at ih'
        exact nm_r (nI_1 p) ih'
theorem yg_b {post : Int64 → Prop} {x : Int32} (hV : gr_V pc L W R) (hY : gr_Y b_left b_right b_width L W R) (H : post (bgF L x pc)) : wpY_beginnings post (nI pc, g_start, g_sets, g_states, g_conflicts, g_ready, g_length, g_tokens, g_stuck, g_scanned, g_value, g_place, b_term, b_size, b_skipped, b_left, b_right, b_width, b_op, b_constant, b_rank, b_grouping, b_bTerm, b_bSize, b_bSkipped, b_bLeft, b_bWidth, b_bOp, b_bConstant, b_follow, b_ends, b_first, b_last, b_none, b_set, b_leads, b_apart, b_state, b_to, b_look, b_begins, b_nullable, b_act, b_built, b_leadTo, b_text, b_fits, b_token, b_stack, b_worth) x := ⟨pc + 1, yg_5 hV hY H pc 0 (by omega)⟩
theorem yc_14 {post : Int64 → Prop} {J5 : Int64 → Int32 → Prop} {k : Nat} {a : Int64} (hV : gr_V pc L W R) (hY : gr_Y b_left b_right b_width L W R) (H : J5 (rr pc L W R 36 a) (nI (k + 1))) : ∀ d i, i + d = 36 → wY_closure_14 post J5 (nI k) (nI pc) g_start g_sets g_states g_conflicts g_ready g_length g_tokens g_stuck g_scanned g_value g_place b_term b_size b_skipped b_left b_right b_width b_op b_constant b_rank b_grouping b_bTerm b_bSize b_bSkipped b_bLeft b_bWidth b_bOp b_bConstant b_follow b_ends b_first b_last b_none b_set b_leads b_apart b_state b_to b_look b_begins b_nullable b_act b_built b_leadTo b_text b_fits b_token b_stack b_worth (d + 1) (rr pc L W R i a) (nI i) := by
  intro d
  induction d with
  | zero =>
    intro i hi
    have : i = 36 := by omega
    subst this
    exact pk_le 36 36 (fun _ => nm_r (nI_1 k) H) (fun z => absurd z (by omega))
  | succ d ih =>
    intro i hi
    have ih' := ih (i + 1) (by omega)
    rw [rr] at ih'
    refine pk_le 36 i (fun z => absurd z (by omega)) (fun _ => zb_b1 i (fun hb => yy_ (by omega) hV hY (yg_b hV hY (nm_e (nm_r (nI_1 i) ?_)))) (fun hb => nm_r (nI_1 i) ?_))
    · rw [if_pos hb] at ih'; exact ih'
    · rw [if_neg (by rw [hb]; decide)] at ih'; exact ih'
theorem yc_r {post : Int64 → Prop} {J5 : Int64 → Int32 → Prop} {k : Nat} {a : Int64} (hV : gr_V pc L W R) (hY : gr_Y b_left b_right b_width L W R) (H : J5 (rr pc L W R 36 a) (nI (k + 1))) : ∃ n14 : Nat, wY_closure_14 post J5 (nI k) (nI pc) g_start g_sets g_states g_conflicts g_ready g_length g_tokens g_stuck g_scanned g_value g_place b_term b_size b_skipped b_left b_right b_width b_op b_constant b_rank b_grouping b_bTerm b_bSize b_bSkipped b_bLeft b_bWidth b_bOp b_bConstant b_follow b_ends b_first b_last b_none b_set b_leads b_apart b_state b_to b_look b_begins b_nullable b_act b_built b_leadTo b_text b_fits b_token b_stack b_worth n14 a 0 :=
  ⟨37, yc_14 hV hY H 36 0 (by omega)⟩
theorem ycl {post : Int64 → Prop} {a : Int64} (hV : gr_V pc L W R) (hY : gr_Y b_left b_right b_width L W R) (ha : ∀ j, 34 ≤ j → bl a j = false) (H : post (clo pc L W R a)) : wpY_closure post (nI pc, g_start, g_sets, g_states, g_conflicts, g_ready, g_length, g_tokens, g_stuck, g_scanned, g_value, g_place, b_term, b_size, b_skipped, b_left, b_right, b_width, b_op, b_constant, b_rank, b_grouping, b_bTerm, b_bSize, b_bSkipped, b_bLeft, b_bWidth, b_bOp, b_bConstant, b_follow, b_ends, b_first, b_last, b_none, b_set, b_leads, b_apart, b_state, b_to, b_look, b_begins, b_nullable, b_act, b_built, b_leadTo, b_text, b_fits, b_token, b_stack, b_worth) a := by
  rw [← (clo_Y (L := L) (W := W) (R := R) hV.2.2.1 hV.1 ha).1] at H
  refine ⟨5, br_f (by decide) (yc_r (k := 0) hV hY ?_)⟩
  generalize rr pc L W R 36 a = a1 at H
  refine br_f (by decide) (yc_r (k := 1) hV hY ?_)
  generalize rr pc L W R 36 a1 = a2 at H
  refine br_f (by decide) (yc_r (k := 2) hV hY ?_)
  generalize rr pc L W R 36 a2 = a3 at H
  refine br_f (by decide) (yc_r (k := 3) hV hY ?_)
  generalize rr pc L W R 36 a3 = a4 at H
  exact br_t (by decide) H
theorem bh_in {a : Int64} {x : Int32} (hV : gr_V pc L W R) (hx : x ≠ -1) {n j : Nat} (hn : n ≤ 36) (h : bl (bhF W R a x n) j = true) : j < 34 ∧ j % 4 ≠ 0 := by
  obtain ⟨i, hi, h1, h2, rfl⟩ := (bh_b n hn).mp h
  unfold nxt at h2
  by_cases c : i % 4 < W (i / 4)
  · have hw := (hV.2.1 (i / 4)).2.1
    have h8 := hV.2.2.2.2.1
    by_cases e : i / 4 = 8
    · rw [e, h8] at c; omega
    · omega
  · rw [if_neg c] at h2; exact absurd h2.symm hx
theorem bh_s {a : Int64} {x : Int32} {i : Nat} : bhF W R a x (i + 1) = if bl a i = true ∧ nxt W R i = x then bhF W R a x i ||| ((1 : Int64) <<< ((nI (i + 1)).toInt64 &&& 63)) else bhF W R a x i := rfl
theorem bh_36 {a : Int64} {x : Int32} (ha : ∀ j, 34 ≤ j → bl a j = false) : bhF W R a x 36 = bhF W R a x 34 := by
  have h1 : bhF W R a x (34 + 1) = bhF W R a x 34 := by
    rw [bh_s, if_neg (fun z => by rw [ha 34 (by omega)] at z; exact absurd z.1 (by decide))]
  have h2 : bhF W R a x (34 + 1 + 1) = bhF W R a x 34 := by
    rw [bh_s, if_neg (fun z => by rw [ha 35 (by omega)] at z; exact absurd z.1 (by decide)), h1]
  exact h2
theorem yi_6 {post : Int64 → Prop} {a : Int64} {x : Int32} (hV : gr_V pc L W R) (hY : gr_Y b_left b_right b_width L W R) (hx : x ≠ -1) (ha : ∀ j, 34 ≤ j → bl a j = false) (H : post (clo pc L W R (bhF W R a x 34))) : ∀ d i, i + d = 36 → wY_behind_6 post a x (nI pc) g_start g_sets g_states g_conflicts g_ready g_length g_tokens g_stuck g_scanned g_value g_place b_term b_size b_skipped b_left b_right b_width b_op b_constant b_rank b_grouping b_bTerm b_bSize b_bSkipped b_bLeft b_bWidth b_bOp b_bConstant b_follow b_ends b_first b_last b_none b_set b_leads b_apart b_state b_to b_look b_begins b_nullable b_act b_built b_leadTo b_text b_fits b_token b_stack b_worth (d + 1) (bhF W R a x i) (nI i) := by
  intro d
  induction d with
  | zero =>
    intro i hi
    have : i = 36 := by omega
    subst this
    rw [bh_36 ha]
    refine pk_le 36 36 (fun _ => ycl hV hY (fun j hj => ?_) H) (fun z => absurd z (by omega))
    cases z : bl (bhF W R a x 34) j with
    | false => rfl
    | true => have := bh_in hV hx (by omega) z; omega
  | succ d ih =>
    intro i hi
    have ih' := ih (i + 1) (by omega)
    rw [bhF] at ih'
    refine pk_le 36 i (fun z => absurd z (by omega)) (fun _ => zb_b1 i (fun hb => yy_ (by omega) hV hY (br_c (fun c => ?_) (fun c => nm_r (nI_1 i) ?_))) (fun hb => nm_r (nI_1 i) ?_))
    · rw [if_pos ⟨hb, c⟩] at ih'
      rw [nI_1 i]
      exact nm_e (nm_e ih')
    · rw [if_neg (fun z => c z.2)] at ih'; exact ih'
    · rw [if_neg (fun z => by rw [hb] at z; exact absurd z.1 (by decide))] at ih'; exact ih'
theorem yib {post : Int64 → Prop} {a : Int64} {x : Int32} (hV : gr_V pc L W R) (hY : gr_Y b_left b_right b_width L W R) (hx : x ≠ -1) (ha : ∀ j, 34 ≤ j → bl a j = false) (H : post (clo pc L W R (bhF W R a x 34))) : wpY_behind post (nI pc, g_start, g_sets, g_states, g_conflicts, g_ready, g_length, g_tokens, g_stuck, g_scanned, g_value, g_place, b_term, b_size, b_skipped, b_left, b_right, b_width, b_op, b_constant, b_rank, b_grouping, b_bTerm, b_bSize, b_bSkipped, b_bLeft, b_bWidth, b_bOp, b_bConstant, b_follow, b_ends, b_first, b_last, b_none, b_set, b_leads, b_apart, b_state, b_to, b_look, b_begins, b_nullable, b_act, b_built, b_leadTo, b_text, b_fits, b_token, b_stack, b_worth) a x := ⟨37, yi_6 hV hY hx ha H 36 0 (by omega)⟩
end
