/-! tokens and token -/
def nuF (tx : Nat → Int32) : Nat → Nat → Int32 → Int32
  | 0, _, a => a
  | d + 1, i, a => nuF tx d (i + 1) (a * 4 + tx i)
section
variable {f_productionCount f_textLength f_anythingBuilt f_tokenCount f_parseValue f_parsePlace : Int32} {a_ruleTerms a_ruleLengths a_skips a_grammar a_ranks a_groupings a_text a_heads a_tails a_empties a_placeLetters a_followers a_ruleEnds : Nat → Int32} {a_sets : Nat → Int64} {a_steps a_classes a_finerClasses : Nat → Int32} {a_states : Nat → Int64} {a_moves a_begins a_lookaheads a_builtCounts a_builtSteps a_builtMatches a_builtSkips a_builtGrammar a_builtMoves a_builtActions a_tokenRules a_tokenBegins a_tokenEnds a_stackStates a_stackValues : Nat → Int32} {post : Int32 → Prop}
theorem xn_9 {k j : Nat} (hk : k < 20) (hj : j ≤ 20) (ej : a_tokenEnds k = nI j) : ∀ d i a, i + d = j → post (nuF a_text d i a) → wX_numberOfToken_9 post (nI k) f_productionCount f_textLength f_anythingBuilt f_tokenCount f_parseValue f_parsePlace a_ruleTerms a_ruleLengths a_skips a_grammar a_ranks a_groupings a_text a_heads a_tails a_empties a_placeLetters a_followers a_ruleEnds a_sets a_steps a_classes a_finerClasses a_states a_moves a_begins a_lookaheads a_builtCounts a_builtSteps a_builtMatches a_builtSkips a_builtGrammar a_builtMoves a_builtActions a_tokenRules a_tokenBegins a_tokenEnds a_stackStates a_stackValues (d + 1) a (nI i) := by
  have ck : (nI k).toNatClampNeg = k := nI_clamp (by omega)
  intro d
  induction d with
  | zero =>
    intro i a hi H
    refine pk_le 20 i (fun _ => H) (fun _ => ⟨vp_in_nI hk (by omega), ?_⟩)
    rw [ck, ej]
    exact pk_le j i (fun _ => H) (fun z => absurd z (by omega))
  | succ d ih =>
    intro i a hi H
    refine pk_le 20 i (fun z => absurd z (by omega)) (fun _ => ⟨vp_in_nI hk (by omega), ?_⟩)
    rw [ck, ej]
    refine pk_le j i (fun z => absurd z (by omega)) (fun _ => ⟨vp_in_nI (by omega) (by omega), ?_⟩)
    rw [nI_clamp (show i < 2 ^ 31 by omega)]
    exact nm_e (nm_r (nI_1 i) (ih (i + 1) _ (by omega) H))
theorem xn_ {k i j : Nat} (hk : k < 20) (hij : i ≤ j) (hj : j ≤ 20) (ei : a_tokenBegins k = nI i) (ej : a_tokenEnds k = nI j) (H : post (nuF a_text (j - i) i 0)) : wpX_numberOfToken post (f_productionCount, f_textLength, f_anythingBuilt, f_tokenCount, f_parseValue, f_parsePlace, a_ruleTerms, a_ruleLengths, a_skips, a_grammar, a_ranks, a_groupings, a_text, a_heads, a_tails, a_empties, a_placeLetters, a_followers, a_ruleEnds, a_sets, a_steps, a_classes, a_finerClasses, a_states, a_moves, a_begins, a_lookaheads, a_builtCounts, a_builtSteps, a_builtMatches, a_builtSkips, a_builtGrammar, a_builtMoves, a_builtActions, a_tokenRules, a_tokenBegins, a_tokenEnds, a_stackStates, a_stackValues) (nI k) := by
  refine ⟨vp_in_nI hk (by omega), ?_⟩
  rw [nI_clamp (show k < 2 ^ 31 by omega), ei]
  exact nm_e ⟨j - i + 1, xn_9 hk hj ej (j - i) i 0 (by omega) H⟩
end
section
variable {g_productions : Int32} {g_start : Int64} {g_sets g_states g_conflicts g_ready g_length g_tokens g_stuck g_scanned g_value g_place : Int32} {b_term b_size b_skipped b_left b_right b_width b_op b_constant b_rank b_grouping b_bTerm b_bSize b_bSkipped b_bLeft b_bWidth b_bOp b_bConstant : Nat → Int32} {b_follow b_ends b_first b_last : Nat → Int64} {b_none : Nat → Int32} {b_set : Nat → Int64} {b_leads b_apart : Nat → Int32} {b_state : Nat → Int64} {b_to b_look b_begins b_nullable b_act b_built b_leadTo b_text b_fits b_token b_stack b_worth : Nat → Int32} {post : Int32 → Prop}
theorem yn_13 {k j : Nat} (hk : k < 20) (hj : j ≤ 20) (ej : b_token (3 * k + 2) = nI j) : ∀ d i a, i + d = j → post (nuF b_text d i a) → wY_number_13 post (nI k) g_productions g_start g_sets g_states g_conflicts g_ready g_length g_tokens g_stuck g_scanned g_value g_place b_term b_size b_skipped b_left b_right b_width b_op b_constant b_rank b_grouping b_bTerm b_bSize b_bSkipped b_bLeft b_bWidth b_bOp b_bConstant b_follow b_ends b_first b_last b_none b_set b_leads b_apart b_state b_to b_look b_begins b_nullable b_act b_built b_leadTo b_text b_fits b_token b_stack b_worth (d + 1) a (nI i) := by
  have ck : 3 * nI k + 2 = nI (3 * k + 2) := by rw [show (3 : Int32) = nI 3 from rfl, show (2 : Int32) = nI 2 from rfl, pk_mul, nI_add]
  intro d
  induction d with
  | zero =>
    intro i a hi H
    refine ⟨by rw [ck]; exact vp_in_nI (by omega) (by omega), ?_⟩
    rw [ck, nI_clamp (by omega), ej]
    exact pk_le j i (fun _ => H) (fun z => absurd z (by omega))
  | succ d ih =>
    intro i a hi H
    refine ⟨by rw [ck]; exact vp_in_nI (by omega) (by omega), ?_⟩
    rw [ck, nI_clamp (by omega), ej]
    refine pk_le j i (fun z => absurd z (by omega)) (fun _ => ⟨vp_in_nI (by omega) (by omega), ?_⟩)
    rw [nI_clamp (show i < 2 ^ 31 by omega)]
    exact nm_r (by rw [Int32.mul_comm]) (nm_r (nI_1 i) (ih (i + 1) _ (by omega) H))
theorem yn_ {k i j : Nat} (hk : k < 20) (hij : i ≤ j) (hj : j ≤ 20) (ei : b_token (3 * k + 1) = nI i) (ej : b_token (3 * k + 2) = nI j) (H : post (nuF b_text (j - i) i 0)) : wpY_number post (g_productions, g_start, g_sets, g_states, g_conflicts, g_ready, g_length, g_tokens, g_stuck, g_scanned, g_value, g_place, b_term, b_size, b_skipped, b_left, b_right, b_width, b_op, b_constant, b_rank, b_grouping, b_bTerm, b_bSize, b_bSkipped, b_bLeft, b_bWidth, b_bOp, b_bConstant, b_follow, b_ends, b_first, b_last, b_none, b_set, b_leads, b_apart, b_state, b_to, b_look, b_begins, b_nullable, b_act, b_built, b_leadTo, b_text, b_fits, b_token, b_stack, b_worth) (nI k) := by
  have ck : 3 * nI k + 1 = nI (3 * k + 1) := by rw [show (3 : Int32) = nI 3 from rfl, pk_mul, nI_1]
  refine ⟨by rw [ck]; exact vp_in_nI (by omega) (by omega), ?_⟩
  rw [ck, nI_clamp (by omega), ei]
  exact nm_e ⟨j - i + 1, yn_13 hk hj ej (j - i) i 0 (by omega) H⟩
end
/-- what both sides have of the tokens -/
theorem tk_both {st ma sk bT bS : Nat → Int32} {tl : Nat → Nat} {n : Nat} {p b e : Nat → Int32} (hs : sc_ok st ma bT bS) (htl : ∀ i, tl i < 4) {z : Nat × Nat × (Nat → Int32) × (Nat → Int32) × (Nat → Int32)} (hz : ct st ma sk tl n 20 (0, 0, p, b, e) = z) :
    z.1 = (cz st ma sk tl n).1 ∧ z.2.1 = (cz st ma sk tl n).2.1 ∧ z.1 ≤ n ∧ z.2.1 ≤ 20 ∧ ∀ k, k < z.2.1 → z.2.2.1 k = (cz st ma sk tl n).2.2.1 k ∧ z.2.2.2.1 k = (cz st ma sk tl n).2.2.2.1 k ∧ z.2.2.2.2 k = (cz st ma sk tl n).2.2.2.2 k ∧
      (∃ r, r < 4 ∧ z.2.2.1 k = nI r) ∧ ∃ i j, i ≤ j ∧ j ≤ n ∧ z.2.2.2.1 k = nI i ∧ z.2.2.2.2 k = nI j := by
  obtain ⟨-, -, c, hc0, hc, hst, hma, -⟩ := hs
  obtain ⟨h1, h2, h3⟩ := ct_eq (st := st) (ma := ma) (sk := sk) (tl := tl) (n := n) 20 0 0 p b e (fun _ => 0) (fun _ => 0) (fun _ => 0) (fun k hk => absurd hk (by omega))
  obtain ⟨k1, k2, k3⟩ := ct_in (sk := sk) hc0 hc hst hma htl (n := n) 20 0 0 p b e (by omega) (fun k hk => absurd hk (by omega))
  rw [hz] at h1 h2 h3 k1 k2 k3
  exact ⟨h1, h2, k1, by omega, fun k hk => ⟨(h3 k hk).1, (h3 k hk).2.1, (h3 k hk).2.2, (k3 k hk).1, (k3 k hk).2⟩⟩
theorem nv_l {tx : Nat → Int32} (h : ∀ k, ∃ l, l < 4 ∧ tx k = nI l) (i : Nat) : nv tx i < 4 := by
  obtain ⟨l, hl, el⟩ := h i
  unfold nv; rw [el, nI_clamp (by omega)]; exact hl
theorem i_vc_tokens {k : Nat} {u : SX} {v : SY} (I : i_Rel k u v) (hk : k + 5 ≤ 2560) : wpX_tokens (fun r u' => wpY_tokens (fun r' v' => r' = r ∧ i_Rel (k + 5) u' v') v) u := by
  obtain ⟨f_productionCount, f_textLength, f_anythingBuilt, f_tokenCount, f_parseValue, f_parsePlace, a_ruleTerms, a_ruleLengths, a_skips, a_grammar, a_ranks, a_groupings, a_text, a_heads, a_tails, a_empties, a_placeLetters, a_followers, a_ruleEnds, a_sets, a_steps, a_classes, a_finerClasses, a_states, a_moves, a_begins, a_lookaheads, a_builtCounts, a_builtSteps, a_builtMatches, a_builtSkips, a_builtGrammar, a_builtMoves, a_builtActions, a_tokenRules, a_tokenBegins, a_tokenEnds, a_stackStates, a_stackValues⟩ := u
  obtain ⟨g_productions, g_start, g_sets, g_states, g_conflicts, g_ready, g_length, g_tokens, g_stuck, g_scanned, g_value, g_place, b_term, b_size, b_skipped, b_left, b_right, b_width, b_op, b_constant, b_rank, b_grouping, b_bTerm, b_bSize, b_bSkipped, b_bLeft, b_bWidth, b_bOp, b_bConstant, b_follow, b_ends, b_first, b_last, b_none, b_set, b_leads, b_apart, b_state, b_to, b_look, b_begins, b_nullable, b_act, b_built, b_leadTo, b_text, b_fits, b_token, b_stack, b_worth⟩ := v
  have I0 := I
  obtain ⟨rfl, rfl, rfl, rfl, rfl, rfl, rfl, rfl, hr, hg, ht, hb⟩ := I
  unfold wpX_tokens wpY_tokens
  dsimp only
  rcases hb with ⟨rfl, rfl⟩ | ⟨rfl, rfl, hcn, hsk, hs, hp, hsd⟩
  · exact br_t rfl (br_t rfl ⟨rfl, I0⟩)
  obtain ⟨n, hn, rfl, rfl, hl⟩ := ht
  rw [nI_clamp (by omega)] at hsd
  refine br_f (by decide) (xc_cut hn hs hl rfl ?_)
  generalize hz : ct a_builtSteps a_builtMatches a_builtSkips (nv a_text) n 20 (0, 0, a_tokenRules, a_tokenBegins, a_tokenEnds) = z
  obtain ⟨z1, z2, -⟩ := tk_both hs (nv_l hl) hz
  dsimp only
  refine br_f (by decide) (ys_ hn hl hs hsk rfl hsd (fun su sd f tk h => ⟨by rw [z2], rl_mk rfl rfl rfl rfl rfl rfl rfl rfl hr hg ⟨n, hn, rfl, rfl, hl⟩ (Or.inr ⟨rfl, rfl, hcn, hsk, hs, hp, Or.inr ?_⟩)⟩))
  rw [nI_clamp (by omega)]
  exact h
theorem i_vc_token {k : Nat} {u : SX} {v : SY} (I : i_Rel k u v) (hk : k + 5 ≤ 2560) (v1 : Int32) (v2 : Int32) : wpX_token (fun r u' => wpY_token (fun r' v' => r' = r ∧ i_Rel (k + 5) u' v') v v1 v2) u v1 v2 := by
  obtain ⟨f_productionCount, f_textLength, f_anythingBuilt, f_tokenCount, f_parseValue, f_parsePlace, a_ruleTerms, a_ruleLengths, a_skips, a_grammar, a_ranks, a_groupings, a_text, a_heads, a_tails, a_empties, a_placeLetters, a_followers, a_ruleEnds, a_sets, a_steps, a_classes, a_finerClasses, a_states, a_moves, a_begins, a_lookaheads, a_builtCounts, a_builtSteps, a_builtMatches, a_builtSkips, a_builtGrammar, a_builtMoves, a_builtActions, a_tokenRules, a_tokenBegins, a_tokenEnds, a_stackStates, a_stackValues⟩ := u
  obtain ⟨g_productions, g_start, g_sets, g_states, g_conflicts, g_ready, g_length, g_tokens, g_stuck, g_scanned, g_value, g_place, b_term, b_size, b_skipped, b_left, b_right, b_width, b_op, b_constant, b_rank, b_grouping, b_bTerm, b_bSize, b_bSkipped, b_bLeft, b_bWidth, b_bOp, b_bConstant, b_follow, b_ends, b_first, b_last, b_none, b_set, b_leads, b_apart, b_state, b_to, b_look, b_begins, b_nullable, b_act, b_built, b_leadTo, b_text, b_fits, b_token, b_stack, b_worth⟩ := v
  have I0 := I
  obtain ⟨rfl, rfl, rfl, rfl, rfl, rfl, rfl, rfl, hr, hg, ht, hb⟩ := I
  unfold wpX_token wpY_token wpY_tokens
  dsimp only
  rcases hb with ⟨rfl, rfl⟩ | ⟨rfl, rfl, hcn, hsk, hs, hp, hsd⟩
  · refine br_t rfl (br_t rfl (am_f ?_ (br_t rfl ⟨rfl, I0⟩)))
    by_cases c : v1 < 0
    · exact Or.inl c
    · exact Or.inr (Int32.le_trans (by decide) (Int32.not_lt.mp c))
  obtain ⟨n, hn, rfl, rfl, hl⟩ := ht
  rw [nI_clamp (by omega)] at hsd
  refine br_f (by decide) (xc_cut hn hs hl rfl ?_)
  generalize hz : ct a_builtSteps a_builtMatches a_builtSkips (nv a_text) n 20 (0, 0, a_tokenRules, a_tokenBegins, a_tokenEnds) = z
  obtain ⟨z1, z2, z3, z4, z5⟩ := tk_both hs (nv_l hl) hz
  dsimp only
  have fin : ∀ (su sd : Int32) (f tk : Nat → Int32) (tr tb te : Nat → Int32) (tc : Int32), tk_ok (cz a_builtSteps a_builtMatches a_builtSkips (nv a_text) n) n (nI (cz a_builtSteps a_builtMatches a_builtSkips (nv a_text) n).2.1) su tk →
      i_Rel (k + 5) (f_productionCount, nI n, 1, tc, f_parseValue, f_parsePlace, a_ruleTerms, a_ruleLengths, a_skips, a_grammar, a_ranks, a_groupings, a_text, a_heads, a_tails, a_empties, a_placeLetters, a_followers, a_ruleEnds, a_sets, a_steps, a_classes, a_finerClasses, a_states, a_moves, a_begins, a_lookaheads, a_builtCounts, a_builtSteps, a_builtMatches, a_builtSkips, a_builtGrammar, a_builtMoves, a_builtActions, tr, tb, te, a_stackStates, a_stackValues) (g_productions, g_start, g_sets, g_states, g_conflicts, 1, nI n, nI (cz a_builtSteps a_builtMatches a_builtSkips (nv a_text) n).2.1, su, sd, f_parseValue, f_parsePlace, a_ruleTerms, a_ruleLengths, a_skips, b_left, b_right, b_width, b_op, b_constant, a_ranks, a_groupings, b_bTerm, b_bSize, b_bSkipped, b_bLeft, b_bWidth, b_bOp, b_bConstant, b_follow, b_ends, b_first, b_last, b_none, b_set, b_leads, b_apart, b_state, b_to, b_look, b_begins, b_nullable, b_act, b_built, b_leadTo, a_text, f, tk, b_stack, b_worth) := by
    intro su sd f tk tr tb te tc h
    refine rl_mk rfl rfl rfl rfl rfl rfl rfl rfl hr hg ⟨n, hn, rfl, rfl, hl⟩ (Or.inr ⟨rfl, rfl, hcn, hsk, hs, hp, Or.inr ?_⟩)
    rw [nI_clamp (by omega)]
    exact h
  rcases zn_bel v1 (n := z.2.1) (by omega) with h1 | ⟨j, hj, rfl⟩
  · refine ib_f h1 (br_t rfl (br_f (by decide) (ys_ hn hl hs hsk rfl hsd (fun su sd f tk h => ?_))))
    rw [z2] at h1
    exact am_f h1 (br_t rfl ⟨rfl, fin su sd f tk _ _ _ _ h⟩)
  obtain ⟨q1, q2, q3, ⟨r, hr4, q4⟩, i, e, hie, hen, q5, q6⟩ := z5 j hj
  refine ib_t j z.2.1 hj (br_f (by decide) ?_)
  rcases zn_bel v2 (n := 4) (by omega) with h2 | ⟨w, hw, rfl⟩
  · have yy : wpY_token (fun r' v' => r' = -1 ∧ i_Rel (k + 5) (f_productionCount, nI n, 1, nI z.2.1, f_parseValue, f_parsePlace, a_ruleTerms, a_ruleLengths, a_skips, a_grammar, a_ranks, a_groupings, a_text, a_heads, a_tails, a_empties, a_placeLetters, a_followers, a_ruleEnds, a_sets, a_steps, a_classes, a_finerClasses, a_states, a_moves, a_begins, a_lookaheads, a_builtCounts, a_builtSteps, a_builtMatches, a_builtSkips, a_builtGrammar, a_builtMoves, a_builtActions, z.2.2.1, z.2.2.2.1, z.2.2.2.2, a_stackStates, a_stackValues) v') (g_productions, g_start, g_sets, g_states, g_conflicts, 1, nI n, g_tokens, g_stuck, g_scanned, f_parseValue, f_parsePlace, a_ruleTerms, a_ruleLengths, a_skips, b_left, b_right, b_width, b_op, b_constant, a_ranks, a_groupings, b_bTerm, b_bSize, b_bSkipped, b_bLeft, b_bWidth, b_bOp, b_bConstant, b_follow, b_ends, b_first, b_last, b_none, b_set, b_leads, b_apart, b_state, b_to, b_look, b_begins, b_nullable, b_act, b_built, b_leadTo, a_text, b_fits, b_token, b_stack, b_worth) (nI j) v2 := by
      unfold wpY_token wpY_tokens
      dsimp only
      refine br_f (by decide) (ys_ hn hl hs hsk rfl hsd (fun su sd f tk h => ?_))
      rw [← z2]
      refine am_t j z.2.1 hj (br_f (by decide) (am_f h2 (br_t rfl ⟨rfl, ?_⟩)))
      rw [z2]
      have := fin su sd f tk z.2.2.1 z.2.2.2.1 z.2.2.2.2 (nI z.2.1) h
      rw [z2] at this
      exact this
    rcases h2 with h2 | h2
    · exact br_t h2 yy
    · refine br_c (fun _ => yy) (fun _ => br_t (Int32.lt_of_lt_of_le (by decide) h2) yy)
  · have yy : ∀ x, (w = 0 → x = nI r) → (w = 1 → x = nI i) → (w = 2 → x = nI e) → (w = 3 → x = nuF a_text (e - i) i 0) →
        wpY_token (fun r' v' => r' = x ∧ i_Rel (k + 5) (f_productionCount, nI n, 1, nI z.2.1, f_parseValue, f_parsePlace, a_ruleTerms, a_ruleLengths, a_skips, a_grammar, a_ranks, a_groupings, a_text, a_heads, a_tails, a_empties, a_placeLetters, a_followers, a_ruleEnds, a_sets, a_steps, a_classes, a_finerClasses, a_states, a_moves, a_begins, a_lookaheads, a_builtCounts, a_builtSteps, a_builtMatches, a_builtSkips, a_builtGrammar, a_builtMoves, a_builtActions, z.2.2.1, z.2.2.2.1, z.2.2.2.2, a_stackStates, a_stackValues) v') (g_productions, g_start, g_sets, g_states, g_conflicts, 1, nI n, g_tokens, g_stuck, g_scanned, f_parseValue, f_parsePlace, a_ruleTerms, a_ruleLengths, a_skips, b_left, b_right, b_width, b_op, b_constant, a_ranks, a_groupings, b_bTerm, b_bSize, b_bSkipped, b_bLeft, b_bWidth, b_bOp, b_bConstant, b_follow, b_ends, b_first, b_last, b_none, b_set, b_leads, b_apart, b_state, b_to, b_look, b_begins, b_nullable, b_act, b_built, b_leadTo, a_text, b_fits, b_token, b_stack, b_worth) (nI j) (nI w) := by
      intro x x0 x1 x2 x3
      unfold wpY_token wpY_tokens
      dsimp only
      refine br_f (by decide) (ys_ hn hl hs hsk rfl hsd (fun su sd f tk h => ?_))
      obtain ⟨t1, t2, t3⟩ := h.2.2.2 j (by rw [← z2]; exact hj)
      rw [← q1, q4] at t1
      rw [← q2, q5] at t2
      rw [← q3, q6] at t3
      have fi := fin su sd f tk z.2.2.1 z.2.2.2.1 z.2.2.2.2 (nI z.2.1) h
      rw [← z2]
      rw [← z2] at fi
      refine am_t j z.2.1 hj (br_f (by decide) (am_t w 4 hw (br_f (by decide) (pk_eq w 3 (fun c => ?_) (fun c => ?_)))))
      · exact yn_ (by omega) hie (by omega) t2 t3 ⟨(x3 c).symm, fi⟩
      · have ej : 3 * nI j + nI w = nI (3 * j + w) := by rw [show (3 : Int32) = nI 3 from rfl, pk_mul, nI_add]
        rw [ej, nI_clamp (by omega)]
        refine ⟨vp_in_nI (by omega) (by omega), ?_, fi⟩
        have hw3 : w = 0 ∨ w = 1 ∨ w = 2 := by omega
        rcases hw3 with c | c | c
        · rw [c]; exact t1.trans (x0 c).symm
        · rw [c]; exact t2.trans (x1 c).symm
        · rw [c]; exact t3.trans (x2 c).symm
    have ij : vp_in (nI j) 20 := vp_in_nI (by omega) (by omega)
    refine br_f (nI_pos (by omega)) (br_f (nI_nlt (a := 3) (by omega) (by omega)) ?_)
    rw [nI_clamp (show j < 2 ^ 31 by omega)]
    refine pk_eq w 0 (fun c => ⟨ij, yy _ (fun _ => q4) (fun z => by omega) (fun z => by omega) (fun z => by omega)⟩) (fun c0 => pk_eq w 1 (fun c => ⟨ij, yy _ (fun z => by omega) (fun _ => q5) (fun z => by omega) (fun z => by omega)⟩) (fun c1 => pk_eq w 2 (fun c => ⟨ij, yy _ (fun z => by omega) (fun z => by omega) (fun _ => q6) (fun z => by omega)⟩) (fun c2 => pk_eq w 3 (fun c => ?_) (fun c3 => by omega))))
    exact xn_ (by omega) hie (by omega) q5 q6 (yy _ (fun z => by omega) (fun z => by omega) (fun z => by omega) (fun _ => rfl))
