/-! the methods that only set or tell something -/
theorem i_vc0 : wpX_init (fun u => wpY_init (fun v => i_Rel 0 u v)) := by
  refine ⟨pk_in 56 63 (by omega), nm_e ⟨pk_in 57 63 (by omega), nm_e ⟨pk_in 58 63 (by omega), nm_e ?_⟩⟩⟩
  refine nm_e (nm_e (nm_e ?_))
  rw [show (56 + 0 : Int32).toNatClampNeg = 56 from by decide, show (56 + 1 : Int32).toNatClampNeg = 57 from by decide, show (56 + 2 : Int32).toNatClampNeg = 58 from by decide]
  refine rl_mk rfl rfl rfl rfl rfl rfl rfl rfl ⟨⟨fun _ => ⟨0, by omega, rfl⟩, fun _ => ⟨0, by omega, rfl⟩⟩, ⟨fun _ => ⟨0, by omega, rfl⟩, fun _ => ⟨0, by omega, rfl⟩⟩⟩ ?_ ⟨0, by omega, rfl, rfl, fun _ => ⟨0, by omega, rfl⟩⟩ (Or.inl ⟨rfl, rfl⟩)
  refine ⟨0, fun p => if p = 8 then 13 else 0, fun p => if p = 8 then 1 else 0, fun _ _ => 10, rfl, rfl, ⟨by omega, ?_, fun p hp => absurd hp (by omega), rfl, rfl, rfl⟩, ?_, ?_, ?_⟩
  · intro p
    refine ⟨by dsimp only; split <;> omega, by dsimp only; split <;> omega, fun _ _ => Or.inr ⟨Nat.le_refl 10, by show 10 < 13; decide⟩⟩
  · intro p hp
    by_cases h : p = 8
    · subst h
      refine ⟨rfl, rfl, fun k hk => ?_⟩
      have : k = 0 := by simp at hk; omega
      subst this; rfl
    · refine ⟨?_, ?_, fun k hk => ?_⟩
      · simp only [upd, h, if_neg]
        rw [if_neg (by omega), if_neg (by omega), if_neg (by omega)]; rfl
      · simp only [upd, h, if_neg]
        rw [if_neg (by omega), if_neg (by omega), if_neg (by omega)]; rfl
      · simp [h] at hk
  · intro p hp
    by_cases h : p = 8
    · subst h
      refine ⟨rfl, rfl, fun k hk => ?_⟩
      have : k = 0 := by simp at hk; omega
      subst this; rfl
    · refine ⟨?_, ?_, fun k hk => ?_⟩
      · simp only [upd, h, if_neg]; rfl
      · simp only [upd, h, if_neg]; rfl
      · simp [h] at hk
  · intro p hp
    refine ⟨?_, ?_, 0, by omega, rfl⟩
    · simp only [upd]; rw [if_neg (by omega), if_neg (by omega), if_neg (by omega)]
    · simp only [upd]; rw [if_neg (by omega), if_neg (by omega), if_neg (by omega)]
theorem i_vc_value {k : Nat} {u : SX} {v : SY} (I : i_Rel k u v) (hk : k + 5 ≤ 2560) : wpX_value (fun r => wpY_value (fun r' => r' = r ∧ i_Rel (k + 5) u v) v) u := by
  obtain ⟨f_productionCount, f_textLength, f_anythingBuilt, f_tokenCount, f_parseValue, f_parsePlace, a_ruleTerms, a_ruleLengths, a_skips, a_grammar, a_ranks, a_groupings, a_text, a_heads, a_tails, a_empties, a_placeLetters, a_followers, a_ruleEnds, a_sets, a_steps, a_classes, a_finerClasses, a_states, a_moves, a_begins, a_lookaheads, a_builtCounts, a_builtSteps, a_builtMatches, a_builtSkips, a_builtGrammar, a_builtMoves, a_builtActions, a_tokenRules, a_tokenBegins, a_tokenEnds, a_stackStates, a_stackValues⟩ := u
  obtain ⟨g_productions, g_start, g_sets, g_states, g_conflicts, g_ready, g_length, g_tokens, g_stuck, g_scanned, g_value, g_place, b_term, b_size, b_skipped, b_left, b_right, b_width, b_op, b_constant, b_rank, b_grouping, b_bTerm, b_bSize, b_bSkipped, b_bLeft, b_bWidth, b_bOp, b_bConstant, b_follow, b_ends, b_first, b_last, b_none, b_set, b_leads, b_apart, b_state, b_to, b_look, b_begins, b_nullable, b_act, b_built, b_leadTo, b_text, b_fits, b_token, b_stack, b_worth⟩ := v
  exact ⟨I.2.2.2.2.2.2.1.symm, I⟩
theorem i_vc_place {k : Nat} {u : SX} {v : SY} (I : i_Rel k u v) (hk : k + 5 ≤ 2560) : wpX_place (fun r => wpY_place (fun r' => r' = r ∧ i_Rel (k + 5) u v) v) u := by
  obtain ⟨f_productionCount, f_textLength, f_anythingBuilt, f_tokenCount, f_parseValue, f_parsePlace, a_ruleTerms, a_ruleLengths, a_skips, a_grammar, a_ranks, a_groupings, a_text, a_heads, a_tails, a_empties, a_placeLetters, a_followers, a_ruleEnds, a_sets, a_steps, a_classes, a_finerClasses, a_states, a_moves, a_begins, a_lookaheads, a_builtCounts, a_builtSteps, a_builtMatches, a_builtSkips, a_builtGrammar, a_builtMoves, a_builtActions, a_tokenRules, a_tokenBegins, a_tokenEnds, a_stackStates, a_stackValues⟩ := u
  obtain ⟨g_productions, g_start, g_sets, g_states, g_conflicts, g_ready, g_length, g_tokens, g_stuck, g_scanned, g_value, g_place, b_term, b_size, b_skipped, b_left, b_right, b_width, b_op, b_constant, b_rank, b_grouping, b_bTerm, b_bSize, b_bSkipped, b_bLeft, b_bWidth, b_bOp, b_bConstant, b_follow, b_ends, b_first, b_last, b_none, b_set, b_leads, b_apart, b_state, b_to, b_look, b_begins, b_nullable, b_act, b_built, b_leadTo, b_text, b_fits, b_token, b_stack, b_worth⟩ := v
  exact ⟨I.2.2.2.2.2.2.2.1.symm, I⟩
theorem ru_set {tm sz : Nat → Int32} (h : ru_ok tm sz) {c r t n : Nat} (ht : t < 10) (hn : n ≤ 8) : ru_ok (upd tm c (nI t)) (upd sz r (nI n)) := by
  refine ⟨fun k => ?_, fun q => ?_⟩
  · by_cases e : k = c
    · subst e; exact ⟨t, ht, pk_us⟩
    · rw [pk_un e]; exact h.1 k
  · by_cases e : q = r
    · subst e; exact ⟨n, hn, pk_us⟩
    · rw [pk_un e]; exact h.2 q
theorem ru_set1 {tm sz : Nat → Int32} (h : ru_ok tm sz) {r n : Nat} (hn : n ≤ 8) : ru_ok tm (upd sz r (nI n)) := by
  refine ⟨h.1, fun q => ?_⟩
  by_cases e : q = r
  · subst e; exact ⟨n, hn, pk_us⟩
  · rw [pk_un e]; exact h.2 q
theorem i_vc_rule {k : Nat} {u : SX} {v : SY} (I : i_Rel k u v) (hk : k + 5 ≤ 2560) (v1 : Int32) (v2 : Int32) : wpX_rule (fun r u' => wpY_rule (fun r' v' => r' = r ∧ i_Rel (k + 5) u' v') v v1 v2) u v1 v2 := by
  obtain ⟨f_productionCount, f_textLength, f_anythingBuilt, f_tokenCount, f_parseValue, f_parsePlace, a_ruleTerms, a_ruleLengths, a_skips, a_grammar, a_ranks, a_groupings, a_text, a_heads, a_tails, a_empties, a_placeLetters, a_followers, a_ruleEnds, a_sets, a_steps, a_classes, a_finerClasses, a_states, a_moves, a_begins, a_lookaheads, a_builtCounts, a_builtSteps, a_builtMatches, a_builtSkips, a_builtGrammar, a_builtMoves, a_builtActions, a_tokenRules, a_tokenBegins, a_tokenEnds, a_stackStates, a_stackValues⟩ := u
  obtain ⟨g_productions, g_start, g_sets, g_states, g_conflicts, g_ready, g_length, g_tokens, g_stuck, g_scanned, g_value, g_place, b_term, b_size, b_skipped, b_left, b_right, b_width, b_op, b_constant, b_rank, b_grouping, b_bTerm, b_bSize, b_bSkipped, b_bLeft, b_bWidth, b_bOp, b_bConstant, b_follow, b_ends, b_first, b_last, b_none, b_set, b_leads, b_apart, b_state, b_to, b_look, b_begins, b_nullable, b_act, b_built, b_leadTo, b_text, b_fits, b_token, b_stack, b_worth⟩ := v
  have I0 := I
  obtain ⟨rfl, rfl, rfl, rfl, rfl, rfl, rfl, rfl, hr, hg, ht, hb⟩ := I
  unfold wpX_rule wpY_rule
  dsimp only
  rcases zn_bel v1 (n := 4) (by omega) with h1 | ⟨r, hr4, rfl⟩
  · exact ib_f h1 (br_t rfl (am_f h1 (br_t rfl ⟨rfl, I0⟩)))
  rcases zn_bel v2 (n := 10) (by omega) with h2 | ⟨t, ht10, rfl⟩
  · exact ib_t r 4 hr4 (br_f (by decide) (ib_f h2 (br_t rfl (am_t r 4 hr4 (br_f (by decide) (am_f h2 (br_t rfl ⟨rfl, I0⟩)))))))
  obtain ⟨n, hn, en⟩ := hr.1.2 r
  have c1 : (nI r).toNatClampNeg = r := nI_clamp (by omega)
  have i1 : vp_in (nI r) 4 := vp_in_nI hr4 (by omega)
  have e1 : nI r * 8 + nI n = nI (8 * r + n) := by rw [show (8 : Int32) = nI 8 from rfl, pk_mul, nI_add]; congr 1; omega
  have e2 : 8 * nI r + nI n = nI (8 * r + n) := by rw [show (8 : Int32) = nI 8 from rfl, pk_mul, nI_add]
  refine ib_t r 4 hr4 (br_f (by decide) (ib_t t 10 ht10 (br_f (by decide) ⟨i1, ?_⟩)))
  rw [c1, en]
  refine pk_eq n 8 (fun e => ?_) (fun e => ⟨i1, ?_⟩)
  · refine am_t r 4 hr4 (br_f (by decide) (am_t t 10 ht10 (br_f (by decide) ⟨i1, ?_⟩)))
    exact br_t (by rw [e]; rfl) ⟨rfl, I0⟩
  rw [e1, nI_clamp (by omega)]
  refine ⟨vp_in_nI (by omega) (by omega), nm_e ⟨i1, i1, nm_r (e' := upd a_ruleLengths r (nI (n + 1))) (by rw [nI_1]) ?_⟩⟩
  refine am_t r 4 hr4 (br_f (by decide) (am_t t 10 ht10 (br_f (by decide) ⟨i1, ?_⟩)))
  refine br_f (by rw [show (8 : Int32) = nI 8 from rfl, nI_eq (by omega) (by omega)]; exact e) ⟨i1, i1, nm_r (e' := upd a_ruleLengths r (nI (n + 1))) (by rw [nI_1]) ?_⟩
  rw [e2, nI_clamp (by omega)]
  exact ⟨vp_in_nI (by omega) (by omega), nm_e ⟨rfl, rl_mk rfl rfl rfl rfl rfl rfl rfl rfl ⟨ru_set hr.1 ht10 (by omega), hr.2⟩ hg ht hb⟩⟩
theorem i_vc_clear {k : Nat} {u : SX} {v : SY} (I : i_Rel k u v) (hk : k + 5 ≤ 2560) (v1 : Int32) : wpX_clear (fun r u' => wpY_clear (fun r' v' => r' = r ∧ i_Rel (k + 5) u' v') v v1) u v1 := by
  obtain ⟨f_productionCount, f_textLength, f_anythingBuilt, f_tokenCount, f_parseValue, f_parsePlace, a_ruleTerms, a_ruleLengths, a_skips, a_grammar, a_ranks, a_groupings, a_text, a_heads, a_tails, a_empties, a_placeLetters, a_followers, a_ruleEnds, a_sets, a_steps, a_classes, a_finerClasses, a_states, a_moves, a_begins, a_lookaheads, a_builtCounts, a_builtSteps, a_builtMatches, a_builtSkips, a_builtGrammar, a_builtMoves, a_builtActions, a_tokenRules, a_tokenBegins, a_tokenEnds, a_stackStates, a_stackValues⟩ := u
  obtain ⟨g_productions, g_start, g_sets, g_states, g_conflicts, g_ready, g_length, g_tokens, g_stuck, g_scanned, g_value, g_place, b_term, b_size, b_skipped, b_left, b_right, b_width, b_op, b_constant, b_rank, b_grouping, b_bTerm, b_bSize, b_bSkipped, b_bLeft, b_bWidth, b_bOp, b_bConstant, b_follow, b_ends, b_first, b_last, b_none, b_set, b_leads, b_apart, b_state, b_to, b_look, b_begins, b_nullable, b_act, b_built, b_leadTo, b_text, b_fits, b_token, b_stack, b_worth⟩ := v
  have I0 := I
  obtain ⟨rfl, rfl, rfl, rfl, rfl, rfl, rfl, rfl, hr, hg, ht, hb⟩ := I
  unfold wpX_clear wpY_clear
  dsimp only
  rcases zn_bel v1 (n := 4) (by omega) with h1 | ⟨r, hr4, rfl⟩
  · exact ib_f h1 (br_t rfl (am_f h1 (br_t rfl ⟨rfl, I0⟩)))
  have c1 : (nI r).toNatClampNeg = r := nI_clamp (by omega)
  have i1 : vp_in (nI r) 4 := vp_in_nI hr4 (by omega)
  refine ib_t r 4 hr4 (br_f (by decide) ⟨i1, nm_e ⟨i1, nm_e ?_⟩⟩)
  refine am_t r 4 hr4 (br_f (by decide) ⟨i1, nm_e ⟨i1, nm_e ⟨rfl, ?_⟩⟩⟩)
  rw [c1]
  exact rl_mk rfl rfl rfl rfl rfl rfl rfl rfl ⟨ru_set1 (n := 0) hr.1 (by omega), hr.2⟩ hg ht hb
theorem i_vc_skip {k : Nat} {u : SX} {v : SY} (I : i_Rel k u v) (hk : k + 5 ≤ 2560) (v1 : Int32) (v2 : Int32) : wpX_skip (fun r u' => wpY_skip (fun r' v' => r' = r ∧ i_Rel (k + 5) u' v') v v1 (lw_bz v2)) u v1 (lw_bz v2) := by
  obtain ⟨f_productionCount, f_textLength, f_anythingBuilt, f_tokenCount, f_parseValue, f_parsePlace, a_ruleTerms, a_ruleLengths, a_skips, a_grammar, a_ranks, a_groupings, a_text, a_heads, a_tails, a_empties, a_placeLetters, a_followers, a_ruleEnds, a_sets, a_steps, a_classes, a_finerClasses, a_states, a_moves, a_begins, a_lookaheads, a_builtCounts, a_builtSteps, a_builtMatches, a_builtSkips, a_builtGrammar, a_builtMoves, a_builtActions, a_tokenRules, a_tokenBegins, a_tokenEnds, a_stackStates, a_stackValues⟩ := u
  obtain ⟨g_productions, g_start, g_sets, g_states, g_conflicts, g_ready, g_length, g_tokens, g_stuck, g_scanned, g_value, g_place, b_term, b_size, b_skipped, b_left, b_right, b_width, b_op, b_constant, b_rank, b_grouping, b_bTerm, b_bSize, b_bSkipped, b_bLeft, b_bWidth, b_bOp, b_bConstant, b_follow, b_ends, b_first, b_last, b_none, b_set, b_leads, b_apart, b_state, b_to, b_look, b_begins, b_nullable, b_act, b_built, b_leadTo, b_text, b_fits, b_token, b_stack, b_worth⟩ := v
  have I0 := I
  obtain ⟨rfl, rfl, rfl, rfl, rfl, rfl, rfl, rfl, hr, hg, ht, hb⟩ := I
  unfold wpX_skip wpY_skip
  dsimp only
  rcases zn_bel v1 (n := 4) (by omega) with h1 | ⟨r, hr4, rfl⟩
  · exact ib_f h1 (br_t rfl (am_f h1 (br_t rfl ⟨rfl, I0⟩)))
  have i1 : vp_in (nI r) 4 := vp_in_nI hr4 (by omega)
  exact ib_t r 4 hr4 (br_f (by decide) ⟨i1, nm_e (am_t r 4 hr4 (br_f (by decide) ⟨i1, nm_e ⟨rfl, rl_mk rfl rfl rfl rfl rfl rfl rfl rfl hr hg ht hb⟩⟩))⟩)
theorem i_vc_retract {k : Nat} {u : SX} {v : SY} (I : i_Rel k u v) (hk : k + 5 ≤ 2560) : wpX_retract (fun r u' => wpY_retract (fun r' v' => r' = r ∧ i_Rel (k + 5) u' v') v) u := by
  obtain ⟨f_productionCount, f_textLength, f_anythingBuilt, f_tokenCount, f_parseValue, f_parsePlace, a_ruleTerms, a_ruleLengths, a_skips, a_grammar, a_ranks, a_groupings, a_text, a_heads, a_tails, a_empties, a_placeLetters, a_followers, a_ruleEnds, a_sets, a_steps, a_classes, a_finerClasses, a_states, a_moves, a_begins, a_lookaheads, a_builtCounts, a_builtSteps, a_builtMatches, a_builtSkips, a_builtGrammar, a_builtMoves, a_builtActions, a_tokenRules, a_tokenBegins, a_tokenEnds, a_stackStates, a_stackValues⟩ := u
  obtain ⟨g_productions, g_start, g_sets, g_states, g_conflicts, g_ready, g_length, g_tokens, g_stuck, g_scanned, g_value, g_place, b_term, b_size, b_skipped, b_left, b_right, b_width, b_op, b_constant, b_rank, b_grouping, b_bTerm, b_bSize, b_bSkipped, b_bLeft, b_bWidth, b_bOp, b_bConstant, b_follow, b_ends, b_first, b_last, b_none, b_set, b_leads, b_apart, b_state, b_to, b_look, b_begins, b_nullable, b_act, b_built, b_leadTo, b_text, b_fits, b_token, b_stack, b_worth⟩ := v
  have I0 := I
  obtain ⟨rfl, rfl, rfl, rfl, rfl, rfl, rfl, rfl, hr, hg, ht, hb⟩ := I
  obtain ⟨pc, L, W, R, rfl, rfl, hV, hX, hY, hO⟩ := hg
  have hpc := hV.1
  unfold wpX_retract wpY_retract
  dsimp only
  refine pk_eq pc 0 (fun e => ?_) (fun e => ?_)
  · exact br_t (by rw [e]; rfl) ⟨rfl, I0⟩
  · have e1 : nI pc - 1 = nI (pc - 1) := by rw [show (1 : Int32) = nI 1 from rfl, pk_sub (by omega)]
    refine nm_e (br_f (by rw [show (0 : Int32) = nI 0 from rfl, nI_eq (by omega) (by omega)]; exact e) (nm_e ⟨rfl, rl_mk rfl rfl rfl rfl rfl rfl rfl rfl hr ?_ ht hb⟩))
    exact ⟨pc - 1, L, W, R, e1, e1, ⟨by omega, hV.2.1, fun p hp => hV.2.2.1 p (by omega), hV.2.2.2⟩, hX, hY, hO⟩
theorem i_vc_rank {k : Nat} {u : SX} {v : SY} (I : i_Rel k u v) (hk : k + 5 ≤ 2560) (v1 : Int32) (v2 : Int32) (v3 : Int32) : wpX_rank (fun r u' => wpY_rank (fun r' v' => r' = r ∧ i_Rel (k + 5) u' v') v v1 v2 v3) u v1 v2 v3 := by
  obtain ⟨f_productionCount, f_textLength, f_anythingBuilt, f_tokenCount, f_parseValue, f_parsePlace, a_ruleTerms, a_ruleLengths, a_skips, a_grammar, a_ranks, a_groupings, a_text, a_heads, a_tails, a_empties, a_placeLetters, a_followers, a_ruleEnds, a_sets, a_steps, a_classes, a_finerClasses, a_states, a_moves, a_begins, a_lookaheads, a_builtCounts, a_builtSteps, a_builtMatches, a_builtSkips, a_builtGrammar, a_builtMoves, a_builtActions, a_tokenRules, a_tokenBegins, a_tokenEnds, a_stackStates, a_stackValues⟩ := u
  obtain ⟨g_productions, g_start, g_sets, g_states, g_conflicts, g_ready, g_length, g_tokens, g_stuck, g_scanned, g_value, g_place, b_term, b_size, b_skipped, b_left, b_right, b_width, b_op, b_constant, b_rank, b_grouping, b_bTerm, b_bSize, b_bSkipped, b_bLeft, b_bWidth, b_bOp, b_bConstant, b_follow, b_ends, b_first, b_last, b_none, b_set, b_leads, b_apart, b_state, b_to, b_look, b_begins, b_nullable, b_act, b_built, b_leadTo, b_text, b_fits, b_token, b_stack, b_worth⟩ := v
  have I0 := I
  obtain ⟨rfl, rfl, rfl, rfl, rfl, rfl, rfl, rfl, hr, hg, ht, hb⟩ := I
  unfold wpX_rank wpY_rank
  dsimp only
  rcases zn_bel v1 (n := 4) (by omega) with h1 | ⟨r, hr4, rfl⟩
  · exact ib_f h1 (br_t rfl (am_f h1 (br_t rfl ⟨rfl, I0⟩)))
  rcases zn_bel v2 (n := 6) (by omega) with h2 | ⟨t, ht6, rfl⟩
  · exact ib_t r 4 hr4 (br_f (by decide) (ib_f h2 (br_t rfl (am_t r 4 hr4 (br_f (by decide) (am_f h2 (br_t rfl ⟨rfl, I0⟩)))))))
  rcases zn_bel v3 (n := 3) (by omega) with h3 | ⟨q, hq, rfl⟩
  · exact ib_t r 4 hr4 (br_f (by decide) (ib_t t 6 ht6 (br_f (by decide) (ib_f h3 (br_t rfl (am_t r 4 hr4 (br_f (by decide) (am_t t 6 ht6 (br_f (by decide) (am_f h3 (br_t rfl ⟨rfl, I0⟩)))))))))))
  have i1 : vp_in (nI r) 4 := vp_in_nI hr4 (by omega)
  exact ib_t r 4 hr4 (br_f (by decide) (ib_t t 6 ht6 (br_f (by decide) (ib_t q 3 hq (br_f (by decide) ⟨i1, nm_e ⟨i1, nm_e (am_t r 4 hr4 (br_f (by decide) (am_t t 6 ht6 (br_f (by decide) (am_t q 3 hq (br_f (by decide) ⟨i1, nm_e ⟨i1, nm_e ⟨rfl, rl_mk rfl rfl rfl rfl rfl rfl rfl rfl hr hg ht hb⟩⟩⟩))))))⟩⟩)))))
theorem i_vc_wipe {k : Nat} {u : SX} {v : SY} (I : i_Rel k u v) (hk : k + 5 ≤ 2560) : wpX_wipe (fun r u' => wpY_wipe (fun r' v' => r' = r ∧ i_Rel (k + 5) u' v') v) u := by
  obtain ⟨f_productionCount, f_textLength, f_anythingBuilt, f_tokenCount, f_parseValue, f_parsePlace, a_ruleTerms, a_ruleLengths, a_skips, a_grammar, a_ranks, a_groupings, a_text, a_heads, a_tails, a_empties, a_placeLetters, a_followers, a_ruleEnds, a_sets, a_steps, a_classes, a_finerClasses, a_states, a_moves, a_begins, a_lookaheads, a_builtCounts, a_builtSteps, a_builtMatches, a_builtSkips, a_builtGrammar, a_builtMoves, a_builtActions, a_tokenRules, a_tokenBegins, a_tokenEnds, a_stackStates, a_stackValues⟩ := u
  obtain ⟨g_productions, g_start, g_sets, g_states, g_conflicts, g_ready, g_length, g_tokens, g_stuck, g_scanned, g_value, g_place, b_term, b_size, b_skipped, b_left, b_right, b_width, b_op, b_constant, b_rank, b_grouping, b_bTerm, b_bSize, b_bSkipped, b_bLeft, b_bWidth, b_bOp, b_bConstant, b_follow, b_ends, b_first, b_last, b_none, b_set, b_leads, b_apart, b_state, b_to, b_look, b_begins, b_nullable, b_act, b_built, b_leadTo, b_text, b_fits, b_token, b_stack, b_worth⟩ := v
  obtain ⟨rfl, rfl, rfl, rfl, rfl, rfl, rfl, rfl, hr, hg, ht, hb⟩ := I
  obtain ⟨n, hn, rfl, rfl, hl⟩ := ht
  refine ⟨rfl, rl_mk rfl rfl rfl rfl rfl rfl rfl rfl hr hg ⟨0, by omega, rfl, rfl, hl⟩ ?_⟩
  rcases hb with h | ⟨h1, h2, h3, h4, h5, h6, h7⟩
  · exact Or.inl h
  · exact Or.inr ⟨h1, h2, h3, h4, h5, h6, Or.inl rfl⟩
theorem i_vc_put {k : Nat} {u : SX} {v : SY} (I : i_Rel k u v) (hk : k + 5 ≤ 2560) (v1 : Int32) : wpX_put (fun r u' => wpY_put (fun r' v' => r' = r ∧ i_Rel (k + 5) u' v') v v1) u v1 := by
  obtain ⟨f_productionCount, f_textLength, f_anythingBuilt, f_tokenCount, f_parseValue, f_parsePlace, a_ruleTerms, a_ruleLengths, a_skips, a_grammar, a_ranks, a_groupings, a_text, a_heads, a_tails, a_empties, a_placeLetters, a_followers, a_ruleEnds, a_sets, a_steps, a_classes, a_finerClasses, a_states, a_moves, a_begins, a_lookaheads, a_builtCounts, a_builtSteps, a_builtMatches, a_builtSkips, a_builtGrammar, a_builtMoves, a_builtActions, a_tokenRules, a_tokenBegins, a_tokenEnds, a_stackStates, a_stackValues⟩ := u
  obtain ⟨g_productions, g_start, g_sets, g_states, g_conflicts, g_ready, g_length, g_tokens, g_stuck, g_scanned, g_value, g_place, b_term, b_size, b_skipped, b_left, b_right, b_width, b_op, b_constant, b_rank, b_grouping, b_bTerm, b_bSize, b_bSkipped, b_bLeft, b_bWidth, b_bOp, b_bConstant, b_follow, b_ends, b_first, b_last, b_none, b_set, b_leads, b_apart, b_state, b_to, b_look, b_begins, b_nullable, b_act, b_built, b_leadTo, b_text, b_fits, b_token, b_stack, b_worth⟩ := v
  have I0 := I
  obtain ⟨rfl, rfl, rfl, rfl, rfl, rfl, rfl, rfl, hr, hg, ht, hb⟩ := I
  obtain ⟨n, hn, rfl, rfl, hl⟩ := ht
  unfold wpX_put wpY_put
  dsimp only
  rcases zn_bel v1 (n := 4) (by omega) with h1 | ⟨r, hr4, rfl⟩
  · exact ib_f h1 (br_t rfl (am_f h1 (br_t rfl ⟨rfl, I0⟩)))
  refine ib_t r 4 hr4 (br_f (by decide) (pk_eq n 20 (fun e => ?_) (fun e => ?_)))
  · exact am_t r 4 hr4 (br_f (by decide) (br_t (by rw [e]; rfl) ⟨rfl, I0⟩))
  have i1 : vp_in (nI n) 20 := vp_in_nI (by omega) (by omega)
  refine ⟨i1, nm_e (nm_r (nI_1 n) ?_)⟩
  refine am_t r 4 hr4 (br_f (by decide) (br_f (by rw [show (20 : Int32) = nI 20 from rfl, nI_eq (by omega) (by omega)]; exact e) (nm_r (nI_1 n) ⟨i1, nm_e ⟨rfl, rl_mk rfl rfl rfl rfl rfl rfl rfl rfl hr hg ⟨n + 1, by omega, rfl, rfl, fun j => ?_⟩ ?_⟩⟩)))
  · by_cases e : j = (nI n).toNatClampNeg
    · rw [e]; exact ⟨r, hr4, pk_us⟩
    · rw [pk_un e]; exact hl j
  · rcases hb with h | ⟨h1, h2, h3, h4, h5, h6, h7⟩
    · exact Or.inl h
    · exact Or.inr ⟨h1, h2, h3, h4, h5, h6, Or.inl rfl⟩
theorem i_vc_built {k : Nat} {u : SX} {v : SY} (I : i_Rel k u v) (hk : k + 5 ≤ 2560) (v1 : Int32) : wpX_built (fun r => wpY_built (fun r' => r' = r ∧ i_Rel (k + 5) u v) v v1) u v1 := by
  obtain ⟨f_productionCount, f_textLength, f_anythingBuilt, f_tokenCount, f_parseValue, f_parsePlace, a_ruleTerms, a_ruleLengths, a_skips, a_grammar, a_ranks, a_groupings, a_text, a_heads, a_tails, a_empties, a_placeLetters, a_followers, a_ruleEnds, a_sets, a_steps, a_classes, a_finerClasses, a_states, a_moves, a_begins, a_lookaheads, a_builtCounts, a_builtSteps, a_builtMatches, a_builtSkips, a_builtGrammar, a_builtMoves, a_builtActions, a_tokenRules, a_tokenBegins, a_tokenEnds, a_stackStates, a_stackValues⟩ := u
  obtain ⟨g_productions, g_start, g_sets, g_states, g_conflicts, g_ready, g_length, g_tokens, g_stuck, g_scanned, g_value, g_place, b_term, b_size, b_skipped, b_left, b_right, b_width, b_op, b_constant, b_rank, b_grouping, b_bTerm, b_bSize, b_bSkipped, b_bLeft, b_bWidth, b_bOp, b_bConstant, b_follow, b_ends, b_first, b_last, b_none, b_set, b_leads, b_apart, b_state, b_to, b_look, b_begins, b_nullable, b_act, b_built, b_leadTo, b_text, b_fits, b_token, b_stack, b_worth⟩ := v
  have I0 := I
  obtain ⟨rfl, rfl, rfl, rfl, rfl, rfl, rfl, rfl, hr, hg, ht, hb⟩ := I
  unfold wpX_built wpY_built
  dsimp only
  rcases hb with ⟨rfl, rfl⟩ | ⟨rfl, rfl, hcn, -⟩
  · exact br_t rfl (br_t rfl ⟨rfl, I0⟩)
  rcases zn_bel v1 (n := 4) (by omega) with h1 | ⟨r, hr4, rfl⟩
  · exact br_f (by decide) (ib_f h1 (br_t rfl (br_f (by decide) (am_f h1 (br_t rfl ⟨rfl, I0⟩)))))
  have i1 : vp_in (nI r) 4 := vp_in_nI hr4 (by omega)
  refine br_f (by decide) (ib_t r 4 hr4 (br_f (by decide) ⟨i1, br_f (by decide) (am_t r 4 hr4 (br_f (by decide) ⟨i1, ?_, I0⟩))⟩))
  rw [nI_clamp (by omega)]
  exact (hcn r hr4).symm
