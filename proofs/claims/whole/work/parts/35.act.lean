/-! actions -/
def stX (b : Bool) (p : Nat) (z : Nat × Nat) : Nat × Nat := if b then (if z.2 = 0 ∨ p = 8 then p else z.1, z.2 + 1) else z
def stY (b : Bool) (p : Nat) (z : Nat × Nat) : Nat × Nat := if b then (if z.1 = 8 then 8 else p, z.2 + (if z.1 = 9 then 0 else 1)) else z
def xfo (C : Nat → Bool) : Nat → Nat × Nat
  | 0 => (9, 0)
  | p + 1 => stX (C p) p (xfo C p)
def yfo (C : Nat → Bool) : Nat → Nat × Nat
  | 0 => (9, 0)
  | k + 1 => stY (C (8 - k)) (8 - k) (yfo C k)
def m9 (b0 b1 b2 b3 b4 b5 b6 b7 b8 : Bool) : Nat → Bool := fun t => match t with | 0 => b0 | 1 => b1 | 2 => b2 | 3 => b3 | 4 => b4 | 5 => b5 | 6 => b6 | 7 => b7 | _ => b8
theorem fo_9 : ∀ b0 b1 b2 b3 b4 b5 b6 b7 b8 : Bool, (yfo (m9 b0 b1 b2 b3 b4 b5 b6 b7 b8) 9).1 = (xfo (m9 b0 b1 b2 b3 b4 b5 b6 b7 b8) 9).1 ∧ (yfo (m9 b0 b1 b2 b3 b4 b5 b6 b7 b8) 9).2 = (xfo (m9 b0 b1 b2 b3 b4 b5 b6 b7 b8) 9).2 - 1 ∧
    ((xfo (m9 b0 b1 b2 b3 b4 b5 b6 b7 b8) 9).2 = 0 ↔ (xfo (m9 b0 b1 b2 b3 b4 b5 b6 b7 b8) 9).1 = 9) ∧ (xfo (m9 b0 b1 b2 b3 b4 b5 b6 b7 b8) 9).2 ≤ 9 ∧ ((xfo (m9 b0 b1 b2 b3 b4 b5 b6 b7 b8) 9).1 = 9 ∨ ((xfo (m9 b0 b1 b2 b3 b4 b5 b6 b7 b8) 9).1 < 9 ∧ m9 b0 b1 b2 b3 b4 b5 b6 b7 b8 (xfo (m9 b0 b1 b2 b3 b4 b5 b6 b7 b8) 9).1 = true)) := by decide +kernel
theorem xfo_c {C D : Nat → Bool} : ∀ n, (∀ p, p < n → C p = D p) → xfo C n = xfo D n
  | 0, _ => rfl
  | n + 1, h => by unfold xfo; rw [xfo_c n (fun p hp => h p (by omega)), h n (by omega)]
theorem yfo_c {C D : Nat → Bool} (h : ∀ p, p < 9 → C p = D p) : ∀ n, yfo C n = yfo D n
  | 0 => rfl
  | n + 1 => by unfold yfo; rw [yfo_c h n, h (8 - n) (by omega)]
theorem m9_e (C : Nat → Bool) : ∀ p, p < 9 → C p = m9 (C 0) (C 1) (C 2) (C 3) (C 4) (C 5) (C 6) (C 7) (C 8) p := by
  intro p hp
  have : p = 0 ∨ p = 1 ∨ p = 2 ∨ p = 3 ∨ p = 4 ∨ p = 5 ∨ p = 6 ∨ p = 7 ∨ p = 8 := by omega
  rcases this with rfl | rfl | rfl | rfl | rfl | rfl | rfl | rfl | rfl <;> rfl
theorem fo_e (C : Nat → Bool) : (yfo C 9).1 = (xfo C 9).1 ∧ (yfo C 9).2 = (xfo C 9).2 - 1 ∧ ((xfo C 9).2 = 0 ↔ (xfo C 9).1 = 9) ∧ (xfo C 9).2 ≤ 9 ∧ ((xfo C 9).1 = 9 ∨ ((xfo C 9).1 < 9 ∧ C (xfo C 9).1 = true)) := by
  have h := fo_9 (C 0) (C 1) (C 2) (C 3) (C 4) (C 5) (C 6) (C 7) (C 8)
  have e := m9_e C
  rw [← xfo_c 9 e, ← yfo_c e 9] at h
  obtain ⟨h1, h2, h3, h4, h5⟩ := h
  refine ⟨h1, h2, h3, h4, h5.imp id (fun ⟨a, b⟩ => ⟨a, ?_⟩)⟩
  rw [e _ a]; exact b
def rkF (ra : Nat → Int32) (R : Nat → Nat → Nat) (p : Nat) : Nat → Int32
  | 0 => 0
  | k + 1 => if R p k < 4 then ra (R p k) else rkF ra R p k
/-- the action: the component's code, the reference's, and how many conflicts there were -/
def actF (on : Option Nat) (ch n : Nat) (r rt gt : Int32) : Int32 × Int32 × Nat :=
  match on with
  | none => (if ch = 9 then -1 else nI ch, if ch = 9 then 0 else if ch = 8 then 1 else nI (100 + ch), n - 1)
  | some q => if n = 0 then (9, nI (2 + q), 0) else if r = 0 ∨ rt = 0 then (9, nI (2 + q), n) else if r = rt then (if gt = 0 then (nI ch, nI (100 + ch), n - 1) else if gt = 1 then (9, nI (2 + q), n - 1) else (-1, 0, n - 1)) else if r ≤ rt then (9, nI (2 + q), n - 1) else (nI ch, nI (100 + ch), n - 1)
def crB (W : Nat → Nat) (G : Nat → Int64) (la : Nat → Nat → Int32) (s t p : Nat) : Bool := bl (G s) (4 * p + W p) && bt (la s (4 * p + W p)) t
def onF (M : Nat → Int32) (s t : Nat) : Option Nat := if t < 4 ∧ M (7 * s + t) ≠ -1 then some (M (7 * s + t)).toNatClampNeg else none
def actO (W : Nat → Nat) (R : Nat → Nat → Nat) (G : Nat → Int64) (M : Nat → Int32) (la : Nat → Nat → Int32) (ra gr : Nat → Int32) (s t : Nat) : Int32 × Int32 × Nat :=
  actF (onF M s t) (xfo (crB W G la s t) 9).1 (xfo (crB W G la s t) 9).2 (rkF ra R (xfo (crB W G la s t) 9).1 (W (xfo (crB W G la s t) 9).1)) (ra t) (gr t)
section
variable {f_productionCount f_textLength f_anythingBuilt f_tokenCount f_parseValue f_parsePlace : Int32} {a_ruleTerms a_ruleLengths a_skips a_grammar a_ranks a_groupings a_text a_heads a_tails a_empties a_placeLetters a_followers a_ruleEnds : Nat → Int32} {a_sets : Nat → Int64} {a_steps a_classes a_finerClasses : Nat → Int32} {a_states : Nat → Int64} {a_moves a_begins a_lookaheads a_builtCounts a_builtSteps a_builtMatches a_builtSkips a_builtGrammar a_builtMoves a_builtActions a_tokenRules a_tokenBegins a_tokenEnds a_stackStates a_stackValues : Nat → Int32} {pc ns : Nat} {L W : Nat → Nat} {R : Nat → Nat → Nat} {G : Nat → Int64} {M : Nat → Int32} {la : Nat → Nat → Int32}
theorem xrk_4 {post : Int32 → Prop} {p : Nat} (hp : p < 9) (hV : gr_V pc L W R) (hX : gr_X a_grammar L W R) (H : post (rkF a_ranks R p (W p))) : ∀ d k, k + d = W p → wX_rankOfProduction_4 post (nI p) f_productionCount f_textLength f_anythingBuilt f_tokenCount f_parseValue f_parsePlace a_ruleTerms a_ruleLengths a_skips a_grammar a_ranks a_groupings a_text a_heads a_tails a_empties a_placeLetters a_followers a_ruleEnds a_sets a_steps a_classes a_finerClasses a_states a_moves a_begins a_lookaheads a_builtCounts a_builtSteps a_builtMatches a_builtSkips a_builtGrammar a_builtMoves a_builtActions a_tokenRules a_tokenBegins a_tokenEnds a_stackStates a_stackValues (d + 1) (rkF a_ranks R p k) (nI k) := by
  have hw := (hV.2.1 p).2.1
  intro d
  induction d with
  | zero =>
    intro k hk
    refine pk_le 4 k (fun z => absurd z (by omega)) (fun _ => ?_)
    rw [show nI p * 4 + nI k = nI (4 * p + k) from by rw [show (4 : Int32) = nI 4 from rfl, pk_mul, nI_add]; congr 1; omega]
    refine xy_ (by omega) hV hX ?_
    have : nxt W R (4 * p + k) = -1 := by unfold nxt; rw [show (4 * p + k) / 4 = p by omega, if_neg (by omega)]
    rw [this]
    have e : k = W p := by omega
    rw [e]
    exact br_t rfl H
  | succ d ih =>
    intro k hk
    have ih' := ih (k + 1) (by omega)
    rw [rkF] at ih'
    refine pk_le 4 k (fun z => absurd z (by omega)) (fun _ => ?_)
    rw [show nI p * 4 + nI k = nI (4 * p + k) from by rw [show (4 : Int32) = nI 4 from rfl, pk_mul, nI_add]; congr 1; omega]
    refine xy_ (by omega) hV hX ?_
    have : nxt W R (4 * p + k) = nI (R p k) := by unfold nxt; rw [show (4 * p + k) / 4 = p by omega, show (4 * p + k) % 4 = k by omega, if_pos (by omega)]
    rw [this]
    have hsy := (hV.2.1 p).2.2 k (by omega)
    have hx13 : R p k < 13 := by rcases hsy with z | z <;> omega
    refine br_f (zn_ne1 (by omega)) ?_
    by_cases c : R p k < 4
    · rw [if_pos c] at ih'
      refine ib_t (R p k) 4 c (br_f (by decide) ⟨vp_in_nI c (by omega), ?_⟩)
      rw [nI_clamp (by omega)]
      exact nm_e (nm_r (nI_1 k) ih')
    · rw [if_neg c] at ih'
      exact ib_f (Or.inr (nI_le (a := 4) (by omega) (by omega))) (br_t rfl (nm_r (nI_1 k) ih'))
theorem xrk {post : Int32 → Prop} {p : Nat} (hp : p < 9) (hV : gr_V pc L W R) (hX : gr_X a_grammar L W R) (H : post (rkF a_ranks R p (W p))) : wpX_rankOfProduction post (f_productionCount, f_textLength, f_anythingBuilt, f_tokenCount, f_parseValue, f_parsePlace, a_ruleTerms, a_ruleLengths, a_skips, a_grammar, a_ranks, a_groupings, a_text, a_heads, a_tails, a_empties, a_placeLetters, a_followers, a_ruleEnds, a_sets, a_steps, a_classes, a_finerClasses, a_states, a_moves, a_begins, a_lookaheads, a_builtCounts, a_builtSteps, a_builtMatches, a_builtSkips, a_builtGrammar, a_builtMoves, a_builtActions, a_tokenRules, a_tokenBegins, a_tokenEnds, a_stackStates, a_stackValues) (nI p) := ⟨W p + 1, xrk_4 hp hV hX H (W p) 0 (by omega)⟩
theorem xcr {post : Int32 → Prop} {s p t : Nat} (hs : s < ns) (hns : ns ≤ 40) (hp : p < 9) (ht : t < 5) (hV : gr_V pc L W R) (hX : gr_X a_grammar L W R) (hG : ∀ s, s < ns → a_states s = G s) (hl : XL a_lookaheads la) (H : post (b2 (crB W G la s t p))) : wpX_canReduce post (f_productionCount, f_textLength, f_anythingBuilt, f_tokenCount, f_parseValue, f_parsePlace, a_ruleTerms, a_ruleLengths, a_skips, a_grammar, a_ranks, a_groupings, a_text, a_heads, a_tails, a_empties, a_placeLetters, a_followers, a_ruleEnds, a_sets, a_steps, a_classes, a_finerClasses, a_states, a_moves, a_begins, a_lookaheads, a_builtCounts, a_builtSteps, a_builtMatches, a_builtSkips, a_builtGrammar, a_builtMoves, a_builtActions, a_tokenRules, a_tokenBegins, a_tokenEnds, a_stackStates, a_stackValues) (nI s) (nI p) (nI t) := by
  have hw := (hV.2.1 p).2.1
  have h8 := hV.2.2.2.2.1
  have hi : 4 * p + W p < 34 := by
    by_cases e : p = 8
    · subst e; rw [h8]; omega
    · omega
  unfold wpX_canReduce
  dsimp only
  rw [show nI p * 7 + 1 = nI (7 * p + 1) from by rw [show (7 : Int32) = nI 7 from rfl, pk_mul, nI_1]; congr 1; omega, nI_clamp (by omega), (hX p hp).2.1, show nI p * 4 + nI (W p) = nI (4 * p + W p) from by rw [show (4 : Int32) = nI 4 from rfl, pk_mul, nI_add]; congr 1; omega]
  refine ⟨vp_in_nI (by omega) (by omega), nm_e ⟨vp_in_nI (by omega) (by omega), ?_⟩⟩
  rw [nI_clamp (show s < 2 ^ 31 by omega), hG s hs]
  unfold crB at H
  refine zb_b0 (4 * p + W p) (fun hb => ?_) (fun hb => ?_)
  · rw [hb] at H; exact H
  · rw [hb] at H
    rw [show nI s * 34 + nI (4 * p + W p) = nI (34 * s + (4 * p + W p)) from by rw [show (34 : Int32) = nI 34 from rfl, pk_mul, nI_add]; congr 1; omega, nI_clamp (show 34 * s + (4 * p + W p) < 2 ^ 31 by omega), hl s _ (by omega) hi]
    refine ⟨vp_in_nI (by omega) (by omega), zc_b0 t (fun hc => ?_) (fun hc => ?_)⟩
    · rw [hc] at H; exact H
    · rw [hc] at H; exact H
def cI (c : Nat) : Int32 := if c = 9 then -1 else nI c
theorem xse {post : Int32 → Prop} {p t : Nat} (hp : p < 9) (ht : t < 4) (hV : gr_V pc L W R) (hX : gr_X a_grammar L W R)
    (H : post (if rkF a_ranks R p (W p) = 0 ∨ a_ranks t = 0 then -2 else if rkF a_ranks R p (W p) = a_ranks t then (if a_groupings t = 0 then nI p else if a_groupings t = 1 then 9 else -1) else if rkF a_ranks R p (W p) ≤ a_ranks t then 9 else nI p)) : wpX_settleByRank post (f_productionCount, f_textLength, f_anythingBuilt, f_tokenCount, f_parseValue, f_parsePlace, a_ruleTerms, a_ruleLengths, a_skips, a_grammar, a_ranks, a_groupings, a_text, a_heads, a_tails, a_empties, a_placeLetters, a_followers, a_ruleEnds, a_sets, a_steps, a_classes, a_finerClasses, a_states, a_moves, a_begins, a_lookaheads, a_builtCounts, a_builtSteps, a_builtMatches, a_builtSkips, a_builtGrammar, a_builtMoves, a_builtActions, a_tokenRules, a_tokenBegins, a_tokenEnds, a_stackStates, a_stackValues) (nI p) (nI t) := by
  have it : vp_in (nI t) 4 := vp_in_nI ht (by omega)
  unfold wpX_settleByRank
  dsimp only
  rw [nI_clamp (show t < 2 ^ 31 by omega)]
  refine ib_t t 4 ht (br_f (by decide) (xrk hp hV hX ⟨it, nm_e ?_⟩))
  refine br_c (fun c => ?_) (fun c => br_c (fun c2 => ?_) (fun c2 => ?_))
  · rw [if_pos (Or.inl c)] at H; exact H
  · rw [if_pos (Or.inr c2)] at H; exact H
  · rw [if_neg (fun z => z.elim c c2)] at H
    refine br_c (fun e => ⟨it, br_c (fun g => ?_) (fun g => ⟨it, br_c (fun g2 => ?_) (fun g2 => ?_)⟩)⟩) (fun e => br_c (fun g => ?_) (fun g => ?_))
    · rw [if_pos e, if_pos g] at H; exact H
    · rw [if_pos e, if_neg g, if_pos g2] at H; exact H
    · rw [if_pos e, if_neg g, if_neg g2] at H; exact H
    · rw [if_neg e, if_pos g] at H; exact H
    · rw [if_neg e, if_neg g] at H; exact H
theorem xca {post : Int32 → SX → Prop} {s t : Nat} (hs : s < ns) (hns : ns ≤ 40) (ht : t < 5) (hV : gr_V pc L W R) (hX : gr_X a_grammar L W R) (hG : ∀ s, s < ns → a_states s = G s) (hl : XL a_lookaheads la) (hM : ∀ s x, s < ns → sym x → a_moves (13 * s + x) = M (7 * s + col x)) (hM4 : a_moves (13 * s + 4) = -1)
    (H : post (nI (actO W R G M la a_ranks a_groupings s t).2.2) (f_productionCount, f_textLength, f_anythingBuilt, f_tokenCount, f_parseValue, f_parsePlace, a_ruleTerms, a_ruleLengths, a_skips, a_grammar, a_ranks, a_groupings, a_text, a_heads, a_tails, a_empties, a_placeLetters, a_followers, a_ruleEnds, a_sets, a_steps, a_classes, a_finerClasses, a_states, a_moves, a_begins, a_lookaheads, a_builtCounts, a_builtSteps, a_builtMatches, a_builtSkips, a_builtGrammar, a_builtMoves, upd a_builtActions (5 * s + t) (actO W R G M la a_ranks a_groupings s t).1, a_tokenRules, a_tokenBegins, a_tokenEnds, a_stackStates, a_stackValues)) : wpX_chooseAction post (f_productionCount, f_textLength, f_anythingBuilt, f_tokenCount, f_parseValue, f_parsePlace, a_ruleTerms, a_ruleLengths, a_skips, a_grammar, a_ranks, a_groupings, a_text, a_heads, a_tails, a_empties, a_placeLetters, a_followers, a_ruleEnds, a_sets, a_steps, a_classes, a_finerClasses, a_states, a_moves, a_begins, a_lookaheads, a_builtCounts, a_builtSteps, a_builtMatches, a_builtSkips, a_builtGrammar, a_builtMoves, a_builtActions, a_tokenRules, a_tokenBegins, a_tokenEnds, a_stackStates, a_stackValues) (nI s) (nI t) := by
  have e5 : nI s * 5 + nI t = nI (5 * s + t) := by rw [show (5 : Int32) = nI 5 from rfl, pk_mul, nI_add]; congr 1; omega
  have e13 : nI s * 13 + nI t = nI (13 * s + t) := by rw [show (13 : Int32) = nI 13 from rfl, pk_mul, nI_add]; congr 1; omega
  obtain ⟨-, -, f3, f4, f5⟩ := fo_e (crB W G la s t)
  have w111 : ∀ (c : Int32) (k : Nat), c = (actO W R G M la a_ranks a_groupings s t).1 → k = (actO W R G M la a_ranks a_groupings s t).2.2 → wX_chooseAction_111 post (nI s) (nI t) c (nI k) f_productionCount f_textLength f_anythingBuilt f_tokenCount f_parseValue f_parsePlace a_ruleTerms a_ruleLengths a_skips a_grammar a_ranks a_groupings a_text a_heads a_tails a_empties a_placeLetters a_followers a_ruleEnds a_sets a_steps a_classes a_finerClasses a_states a_moves a_begins a_lookaheads a_builtCounts a_builtSteps a_builtMatches a_builtSkips a_builtGrammar a_builtMoves a_builtActions a_tokenRules a_tokenBegins a_tokenEnds a_stackStates a_stackValues := by
    intro c k hc hk
    subst hc hk
    unfold wX_chooseAction_111
    rw [e5, nI_clamp (by omega)]
    exact ⟨vp_in_nI (by omega) (by omega), nm_e H⟩
  have fin : ∀ k : Nat, k = (xfo (crB W G la s t) 9).2 - 1 → wX_chooseAction_65 post (nI s) (nI t) (cI (xfo (crB W G la s t) 9).1) (nI (xfo (crB W G la s t) 9).2) (nI k) f_productionCount f_textLength f_anythingBuilt f_tokenCount f_parseValue f_parsePlace a_ruleTerms a_ruleLengths a_skips a_grammar a_ranks a_groupings a_text a_heads a_tails a_empties a_placeLetters a_followers a_ruleEnds a_sets a_steps a_classes a_finerClasses a_states a_moves a_begins a_lookaheads a_builtCounts a_builtSteps a_builtMatches a_builtSkips a_builtGrammar a_builtMoves a_builtActions a_tokenRules a_tokenBegins a_tokenEnds a_stackStates a_stackValues := by
    intro k hk
    unfold actO at w111
    generalize (xfo (crB W G la s t) 9).1 = ch at *
    generalize (xfo (crB W G la s t) 9).2 = n at *
    unfold wX_chooseAction_65
    rw [e13, nI_clamp (show 13 * s + t < 2 ^ 31 by omega)]
    refine ⟨vp_in_nI (by omega) (by omega), br_c (fun c => ?_) (fun c => ?_)⟩
    · have hon : onF M s t = none := by
        unfold onF
        by_cases z : t < 4
        · have := hM s t hs (Or.inl z)
          rw [c] at this
          unfold col at this
          rw [if_pos z] at this
          rw [if_neg (fun y => y.2 this.symm)]
        · rw [if_neg (fun y => z y.1)]
      rw [hon] at w111
      exact w111 _ k rfl hk
    · have ht4 : t < 4 := by
        rcases Nat.lt_or_ge t 4 with z | z
        · exact z
        · have : t = 4 := by omega
          subst this; exact absurd hM4 c
      have hmm := hM s t hs (Or.inl ht4)
      unfold col at hmm
      rw [if_pos ht4] at hmm
      rw [hmm] at c
      have hon : onF M s t = some (M (7 * s + t)).toNatClampNeg := by
        unfold onF; rw [if_pos ⟨ht4, c⟩]
      rw [hon] at w111
      unfold actF at w111
      dsimp only at w111
      refine pk_eq n 0 (fun n0 => ?_) (fun n0 => ?_)
      · rw [if_pos n0] at w111
        exact br_f (by decide) (w111 _ k rfl (by show k = 0; omega))
      · have hch : ch ≠ 9 := fun z => n0 (f3.mpr z)
        have hch9 : ch < 9 := by rcases f5 with z | z <;> omega
        rw [if_neg n0] at w111
        have ec : cI ch = nI ch := by unfold cI; rw [if_neg hch]
        rw [ec]
        refine xse hch9 ht4 hV hX ?_
        have nch : ¬ nI ch = -2 := by
          intro e
          have := congrArg Int32.toInt e
          rw [nI_toInt (by omega), show (-2 : Int32).toInt = -2 from by decide] at this
          omega
        by_cases r0 : rkF a_ranks R ch (W ch) = 0 ∨ a_ranks t = 0
        · rw [if_pos r0] at w111 ⊢
          exact br_t rfl (nm_r (e' := nI n) (by rw [nI_1]; congr 1; omega) (w111 _ n rfl rfl))
        · rw [if_neg r0] at w111 ⊢
          by_cases re : rkF a_ranks R ch (W ch) = a_ranks t
          · rw [if_pos re] at w111 ⊢
            by_cases g0 : a_groupings t = 0
            · rw [if_pos g0] at w111 ⊢
              exact br_f nch (w111 _ k rfl hk)
            · rw [if_neg g0] at w111 ⊢
              by_cases g1 : a_groupings t = 1
              · rw [if_pos g1] at w111 ⊢
                exact br_f (by decide) (w111 _ k rfl hk)
              · rw [if_neg g1] at w111 ⊢
                exact br_f (by decide) (w111 _ k rfl hk)
          · rw [if_neg re] at w111 ⊢
            by_cases rl : rkF a_ranks R ch (W ch) ≤ a_ranks t
            · rw [if_pos rl] at w111 ⊢
              exact br_f (by decide) (w111 _ k rfl hk)
            · rw [if_neg rl] at w111 ⊢
              exact br_f nch (w111 _ k rfl hk)
  have loop : ∀ d p, p + d = 9 → (xfo (crB W G la s t) p).2 ≤ p → wX_chooseAction_8 post (nI s) (nI t) f_productionCount f_textLength f_anythingBuilt f_tokenCount f_parseValue f_parsePlace a_ruleTerms a_ruleLengths a_skips a_grammar a_ranks a_groupings a_text a_heads a_tails a_empties a_placeLetters a_followers a_ruleEnds a_sets a_steps a_classes a_finerClasses a_states a_moves a_begins a_lookaheads a_builtCounts a_builtSteps a_builtMatches a_builtSkips a_builtGrammar a_builtMoves a_builtActions a_tokenRules a_tokenBegins a_tokenEnds a_stackStates a_stackValues (d + 1) (cI (xfo (crB W G la s t) p).1) (nI (xfo (crB W G la s t) p).2) (nI p) := by
    intro d
    induction d with
    | zero =>
      intro p hp hn
      have : p = 9 := by omega
      subst this
      refine pk_le 9 9 (fun _ => pk_le (xfo (crB W G la s t) 9).2 1 (fun c => fin 0 (by omega)) (fun c => ?_)) (fun z => absurd z (by omega))
      rw [show nI (xfo (crB W G la s t) 9).2 - 1 = nI ((xfo (crB W G la s t) 9).2 - 1) from by rw [show (1 : Int32) = nI 1 from rfl, pk_sub (by omega)]]
      exact fin _ rfl
    | succ d ih =>
      intro p hp hn
      have ih' := ih (p + 1) (by omega)
      rw [xfo] at ih'
      refine pk_le 9 p (fun z => absurd z (by omega)) (fun _ => xcr hs hns (by omega) ht hV hX hG hl ?_)
      generalize xfo (crB W G la s t) p = z at ih' hn
      unfold stX at ih'
      cases hc : crB W G la s t p with
      | false =>
        rw [hc, if_neg (show ¬ (false = true) by decide)] at ih'
        exact br_t rfl (nm_r (nI_1 p) (ih' (by omega)))
      | true =>
        rw [hc, if_pos rfl] at ih'
        have ih2 := ih' (by show z.2 + 1 ≤ p + 1; omega)
        dsimp only at ih2
        have ecp : cI p = nI p := by unfold cI; rw [if_neg (by omega)]
        refine br_f (by decide) (nm_r (nI_1 z.2) (pk_eq (z.2 + 1) 1 (fun e => nm_r (nI_1 p) ?_) (fun e => pk_eq p 8 (fun e8 => nm_r (nI_1 p) ?_) (fun n8 => nm_r (nI_1 p) ?_))))
        · rw [if_pos (Or.inl (by omega)), ecp] at ih2; exact ih2
        · rw [if_pos (Or.inr e8), ecp] at ih2; exact ih2
        · rw [if_neg (fun y => by omega)] at ih2; exact ih2
  exact ⟨10, loop 9 0 (by omega) (Nat.le_refl _)⟩
def cfT (f : Nat → Nat → Nat) : Nat → Nat
  | 0 => 0
  | k + 1 => cfT f k + f (k / 5) (k % 5)
theorem xka {post : Int32 → SX → Prop} (hns : ns ≤ 40) (hV : gr_V pc L W R) (hX : gr_X a_grammar L W R) (hG : ∀ s, s < ns → a_states s = G s) (hl : XL a_lookaheads la) (hM : ∀ s x, s < ns → sym x → a_moves (13 * s + x) = M (7 * s + col x)) (hM4 : ∀ s, s < ns → a_moves (13 * s + 4) = -1)
    (H : ∀ ac : Nat → Int32, (∀ k, k < 5 * ns → ac k = (actO W R G M la a_ranks a_groupings (k / 5) (k % 5)).1) → post (nI (cfT (fun s t => (actO W R G M la a_ranks a_groupings s t).2.2) (5 * ns))) (f_productionCount, f_textLength, f_anythingBuilt, f_tokenCount, f_parseValue, f_parsePlace, a_ruleTerms, a_ruleLengths, a_skips, a_grammar, a_ranks, a_groupings, a_text, a_heads, a_tails, a_empties, a_placeLetters, a_followers, a_ruleEnds, a_sets, a_steps, a_classes, a_finerClasses, a_states, a_moves, a_begins, a_lookaheads, a_builtCounts, a_builtSteps, a_builtMatches, a_builtSkips, a_builtGrammar, a_builtMoves, ac, a_tokenRules, a_tokenBegins, a_tokenEnds, a_stackStates, a_stackValues)) :
    wpX_keepActions post (f_productionCount, f_textLength, f_anythingBuilt, f_tokenCount, f_parseValue, f_parsePlace, a_ruleTerms, a_ruleLengths, a_skips, a_grammar, a_ranks, a_groupings, a_text, a_heads, a_tails, a_empties, a_placeLetters, a_followers, a_ruleEnds, a_sets, a_steps, a_classes, a_finerClasses, a_states, a_moves, a_begins, a_lookaheads, a_builtCounts, a_builtSteps, a_builtMatches, a_builtSkips, a_builtGrammar, a_builtMoves, a_builtActions, a_tokenRules, a_tokenBegins, a_tokenEnds, a_stackStates, a_stackValues) (nI ns) := by
  have row : ∀ (s : Nat), s < ns → ∀ (J4 : Int32 → Int32 → Int32 → Int32 → Int32 → Int32 → Int32 → Int32 → (Nat → Int32) → (Nat → Int32) → (Nat → Int32) → (Nat → Int32) → (Nat → Int32) → (Nat → Int32) → (Nat → Int32) → (Nat → Int32) → (Nat → Int32) → (Nat → Int32) → (Nat → Int32) → (Nat → Int32) → (Nat → Int32) → (Nat → Int64) → (Nat → Int32) → (Nat → Int32) → (Nat → Int32) → (Nat → Int64) → (Nat → Int32) → (Nat → Int32) → (Nat → Int32) → (Nat → Int32) → (Nat → Int32) → (Nat → Int32) → (Nat → Int32) → (Nat → Int32) → (Nat → Int32) → (Nat → Int32) → (Nat → Int32) → (Nat → Int32) → (Nat → Int32) → (Nat → Int32) → (Nat → Int32) → Prop), (∀ ac : Nat → Int32, (∀ k, k < 5 * (s + 1) → ac k = (actO W R G M la a_ranks a_groupings (k / 5) (k % 5)).1) → J4 (nI (cfT (fun s t => (actO W R G M la a_ranks a_groupings s t).2.2) (5 * (s + 1)))) (nI (s + 1)) f_productionCount f_textLength f_anythingBuilt f_tokenCount f_parseValue f_parsePlace a_ruleTerms a_ruleLengths a_skips a_grammar a_ranks a_groupings a_text a_heads a_tails a_empties a_placeLetters a_followers a_ruleEnds a_sets a_steps a_classes a_finerClasses a_states a_moves a_begins a_lookaheads a_builtCounts a_builtSteps a_builtMatches a_builtSkips a_builtGrammar a_builtMoves ac a_tokenRules a_tokenBegins a_tokenEnds a_stackStates a_stackValues) →
      ∀ d t (ac : Nat → Int32), t + d = 5 → (∀ k, k < 5 * s + t → ac k = (actO W R G M la a_ranks a_groupings (k / 5) (k % 5)).1) → wX_keepActions_18 post J4 (nI ns) (nI s) (d + 1) (nI (cfT (fun s t => (actO W R G M la a_ranks a_groupings s t).2.2) (5 * s + t))) (nI t) f_productionCount f_textLength f_anythingBuilt f_tokenCount f_parseValue f_parsePlace a_ruleTerms a_ruleLengths a_skips a_grammar a_ranks a_groupings a_text a_heads a_tails a_empties a_placeLetters a_followers a_ruleEnds a_sets a_steps a_classes a_finerClasses a_states a_moves a_begins a_lookaheads a_builtCounts a_builtSteps a_builtMatches a_builtSkips a_builtGrammar a_builtMoves ac a_tokenRules a_tokenBegins a_tokenEnds a_stackStates a_stackValues := by
    intro s hs J4 HJ d
    induction d with
    | zero =>
      intro t ac ht h
      have : t = 5 := by omega
      subst this
      exact pk_le 5 5 (fun _ => nm_r (nI_1 s) (HJ ac h)) (fun z => absurd z (by omega))
    | succ d ih =>
      intro t ac ht h
      refine pk_le 5 t (fun z => absurd z (by omega)) (fun _ => xca (a_builtActions := ac) hs hns (by omega) hV hX hG hl hM (hM4 s hs) ?_)
      dsimp only
      have e1 : (5 * s + t) / 5 = s := by omega
      have e2 : (5 * s + t) % 5 = t := by omega
      have ec : cfT (fun s t => (actO W R G M la a_ranks a_groupings s t).2.2) (5 * s + (t + 1)) = cfT (fun s t => (actO W R G M la a_ranks a_groupings s t).2.2) (5 * s + t) + (actO W R G M la a_ranks a_groupings s t).2.2 := by
        rw [← Nat.add_assoc, cfT, e1, e2]
      refine nm_r (e' := nI (cfT (fun s t => (actO W R G M la a_ranks a_groupings s t).2.2) (5 * s + (t + 1)))) (by rw [nI_add, ec]) (nm_r (nI_1 t) (ih (t + 1) _ (by omega) (fun k hk => ?_)))
      by_cases e : k = 5 * s + t
      · subst e; rw [pk_us, e1, e2]
      · rw [pk_un e]; exact h k (by omega)
  have all : ∀ d s (ac : Nat → Int32), s + d = ns → (∀ k, k < 5 * s → ac k = (actO W R G M la a_ranks a_groupings (k / 5) (k % 5)).1) → wX_keepActions_4 post (nI ns) (d + 1) (nI (cfT (fun s t => (actO W R G M la a_ranks a_groupings s t).2.2) (5 * s))) (nI s) f_productionCount f_textLength f_anythingBuilt f_tokenCount f_parseValue f_parsePlace a_ruleTerms a_ruleLengths a_skips a_grammar a_ranks a_groupings a_text a_heads a_tails a_empties a_placeLetters a_followers a_ruleEnds a_sets a_steps a_classes a_finerClasses a_states a_moves a_begins a_lookaheads a_builtCounts a_builtSteps a_builtMatches a_builtSkips a_builtGrammar a_builtMoves ac a_tokenRules a_tokenBegins a_tokenEnds a_stackStates a_stackValues := by
    intro d
    induction d with
    | zero =>
      intro s ac hs h
      have : s = ns := by omega
      subst this
      exact pk_le 40 s (fun _ => H ac h) (fun _ => pk_le s s (fun _ => H ac h) (fun z => absurd z (by omega)))
    | succ d ih =>
      intro s ac hs h
      exact pk_le 40 s (fun z => absurd z (by omega)) (fun _ => pk_le ns s (fun z => absurd z (by omega)) (fun _ => ⟨6, row s (by omega) _ (fun ac' h' => ih (s + 1) ac' (by omega) h') 5 0 ac (by omega) h⟩))
  exact ⟨ns + 1, all ns 0 a_builtActions (by omega) (fun k hk => absurd hk (Nat.not_lt_zero _))⟩
end
