theorem i_vc_parse {k : Nat} {u : SX} {v : SY} (I : i_Rel k u v) (hk : k + 5 ≤ 2560) : wpX_parse (fun r u' => wpY_parse (fun r' v' => r' = r ∧ i_Rel (k + 5) u' v') v) u := by
  obtain ⟨f_productionCount, f_textLength, f_anythingBuilt, f_tokenCount, f_parseValue, f_parsePlace, a_ruleTerms, a_ruleLengths, a_skips, a_grammar, a_ranks, a_groupings, a_text, a_heads, a_tails, a_empties, a_placeLetters, a_followers, a_ruleEnds, a_sets, a_steps, a_classes, a_finerClasses, a_states, a_moves, a_begins, a_lookaheads, a_builtCounts, a_builtSteps, a_builtMatches, a_builtSkips, a_builtGrammar, a_builtMoves, a_builtActions, a_tokenRules, a_tokenBegins, a_tokenEnds, a_stackStates, a_stackValues⟩ := u
  obtain ⟨g_productions, g_start, g_sets, g_states, g_conflicts, g_ready, g_length, g_tokens, g_stuck, g_scanned, g_value, g_place, b_term, b_size, b_skipped, b_left, b_right, b_width, b_op, b_constant, b_rank, b_grouping, b_bTerm, b_bSize, b_bSkipped, b_bLeft, b_bWidth, b_bOp, b_bConstant, b_follow, b_ends, b_first, b_last, b_none, b_set, b_leads, b_apart, b_state, b_to, b_look, b_begins, b_nullable, b_act, b_built, b_leadTo, b_text, b_fits, b_token, b_stack, b_worth⟩ := v
  have I0 := I
  obtain ⟨rfl, rfl, rfl, rfl, rfl, rfl, rfl, rfl, hr, hg, ht, hb⟩ := I
  unfold wpX_parse wpY_parse
  dsimp only
  rcases hb with ⟨rfl, rfl⟩ | ⟨rfl, rfl, hcn, hsk, hs, hp, hsd⟩
  · exact br_t rfl (br_t rfl ⟨rfl, I0⟩)
  obtain ⟨n, hn, rfl, rfl, hl⟩ := ht
  rw [nI_clamp (by omega)] at hsd
  refine br_f (by decide) (xc_cut hn hs hl rfl ?_)
  generalize hz : ct a_builtSteps a_builtMatches a_builtSkips (nv a_text) n 20 (0, 0, a_tokenRules, a_tokenBegins, a_tokenEnds) = z
  obtain ⟨z1, z2, z3, z4, z5⟩ := tk_both hs (nv_l hl) hz
  dsimp only
  refine pk_le n z.1 (fun c => ?_) (fun c => ?_)
  · obtain ⟨ns, S, L, W, p0, p1, p2, p3, p4, p5, p6, p7, p8⟩ := hp
    unfold wpX_runParser
    dsimp only
    have hp' : pa_ok a_builtGrammar a_builtMoves a_builtActions b_bLeft b_bWidth b_bOp b_bConstant b_leadTo b_act := ⟨ns, S, L, W, p0, p1, p2, p3, p4, p5, p6, p7, p8⟩
    refine nm_e ⟨152, ?_⟩
    obtain ⟨ans, val, pl, ss', sv', HX, HY⟩ := rp_ (f_productionCount := f_productionCount) (f_textLength := nI n) (f_anythingBuilt := 1) (f_parsePlace := f_parsePlace) (a_ruleTerms := a_ruleTerms) (a_ruleLengths := a_ruleLengths) (a_skips := a_skips) (a_grammar := a_grammar) (a_ranks := a_ranks) (a_groupings := a_groupings) (a_text := a_text) (a_heads := a_heads) (a_tails := a_tails) (a_empties := a_empties) (a_placeLetters := a_placeLetters) (a_followers := a_followers) (a_ruleEnds := a_ruleEnds) (a_sets := a_sets) (a_steps := a_steps) (a_classes := a_classes) (a_finerClasses := a_finerClasses) (a_states := a_states) (a_moves := a_moves) (a_begins := a_begins) (a_lookaheads := a_lookaheads) (a_builtCounts := a_builtCounts) (a_builtSteps := a_builtSteps) (a_builtMatches := a_builtMatches) (a_builtSkips := a_builtSkips) (g_productions := g_productions) (g_start := g_start) (g_sets := g_sets) (g_states := g_states) (g_conflicts := g_conflicts) (g_ready := 1) (g_length := nI n) (b_term := a_ruleTerms) (b_size := a_ruleLengths) (b_skipped := a_skips) (b_left := b_left) (b_right := b_right) (b_width := b_width) (b_op := b_op) (b_constant := b_constant) (b_rank := a_ranks) (b_grouping := a_groupings) (b_bTerm := b_bTerm) (b_bSize := b_bSize) (b_bSkipped := b_bSkipped) (b_follow := b_follow) (b_ends := b_ends) (b_first := b_first) (b_last := b_last) (b_none := b_none) (b_set := b_set) (b_leads := b_leads) (b_apart := b_apart) (b_state := b_state) (b_to := b_to) (b_look := b_look) (b_begins := b_begins) (b_nullable := b_nullable) (b_built := b_built) (a_tokenRules := z.2.2.1) (a_tokenBegins := z.2.2.2.1) (a_tokenEnds := z.2.2.2.2)
      (cnt := z.2.1) p1 p2 p3 p4 p5 p6 p7 p8 z4 (fun j hj => by
        obtain ⟨q1, q2, q3, ⟨r, hr4, q4⟩, i, e, hie, hen, q5, q6⟩ := z5 j hj
        exact ⟨r, i, e, hr4, hie, by omega, q4, q5, q6⟩) 150 0 0 0 (fun _ => 0) (upd a_stackStates 0 0) (upd b_stack 0 0) a_stackValues b_worth (-1) (by omega) (by omega) (by omega) ⟨rfl, fun j hj => by
          have : j = 0 := by omega
          subst this
          exact ⟨p0, pk_us, pk_us⟩, fun j hj => absurd hj (by omega), fun j a b => by omega⟩
    refine HX _ (br_f (by decide) (ys_ hn hl hs hsk rfl hsd (fun su sd f tk h => ?_)))
    have esu : su = -1 := h.2.2.1 (by rw [← z1]; exact c)
    subst esu
    obtain ⟨st', wo', HY⟩ := HY (-1) sd f tk (fun j hj => by
      obtain ⟨q1, q2, q3, -⟩ := z5 j hj
      obtain ⟨t1, t2, t3⟩ := h.2.2.2 j (by rw [← z2]; exact hj)
      exact ⟨t1.trans q1.symm, t2.trans q2.symm, t3.trans q3.symm⟩)
    rw [← z2]
    refine br_t (show (-1 : Int32) < 0 by decide) (nm_e ⟨152, HY _ ⟨rfl, rl_mk rfl rfl rfl rfl rfl rfl rfl rfl hr hg ⟨n, hn, rfl, rfl, hl⟩ (Or.inr ⟨rfl, rfl, hcn, hsk, hs, hp', Or.inr ?_⟩)⟩⟩)
    rw [nI_clamp (by omega), z2]
    exact h
  · refine br_f (by decide) (ys_ hn hl hs hsk rfl hsd (fun su sd f tk h => ?_))
    have esu : su = nI z.1 := by rw [z1]; exact h.2.1 (by rw [← z1]; exact c)
    subst esu
    refine br_f (nI_pos (by omega)) ⟨rfl, rl_mk rfl rfl rfl rfl rfl rfl rfl rfl hr hg ⟨n, hn, rfl, rfl, hl⟩ (Or.inr ⟨rfl, rfl, hcn, hsk, hs, hp, Or.inr ?_⟩)⟩
    rw [nI_clamp (by omega)]
    exact h
