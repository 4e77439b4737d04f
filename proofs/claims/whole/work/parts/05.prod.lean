/-! produce and action -/
theorem gr_Xact {g : Nat → Int32} {L W : Nat → Nat} {R : Nat → Nat → Nat} {p : Nat} {x y : Int32} (hW : ∀ p, W p ≤ 3) (h : gr_X g L W R) : gr_X (upd (upd g (7 * p + 5) x) (7 * p + 6) y) L W R := by
  intro q hq
  have := hW q
  obtain ⟨h1, h2, h3⟩ := h q hq
  refine ⟨by rw [pk_un (by omega), pk_un (by omega)]; exact h1, by rw [pk_un (by omega), pk_un (by omega)]; exact h2, fun k hk => ?_⟩
  rw [pk_un (by omega), pk_un (by omega)]; exact h3 k hk
theorem gr_Oact {g op co : Nat → Int32} {p o : Nat} {y : Int32} (ho : o < 4) (h : gr_O g op co) : gr_O (upd (upd g (7 * p + 5) (nI o)) (7 * p + 6) y) (upd op p (nI o)) (upd co p y) := by
  intro q hq
  obtain ⟨h1, h2, h3⟩ := h q hq
  by_cases e : q = p
  · subst e
    rw [pk_us, pk_us, pk_us, pk_un (by omega), pk_us]
    exact ⟨rfl, rfl, o, ho, rfl⟩
  · refine ⟨?_, ?_, ?_⟩
    · rw [pk_un (by omega), pk_un (by omega), pk_un e]; exact h1
    · rw [pk_un (by omega), pk_un (by omega), pk_un e]; exact h2
    · rw [pk_un e]; exact h3
theorem i_vc_action {k : Nat} {u : SX} {v : SY} (I : i_Rel k u v) (hk : k + 5 ≤ 2560) (v1 : Int32) (v2 : Int32) (v3 : Int32) : wpX_action (fun r u' => wpY_action (fun r' v' => r' = r ∧ i_Rel (k + 5) u' v') v v1 v2 v3) u v1 v2 v3 := by
  obtain ⟨f_productionCount, f_textLength, f_anythingBuilt, f_tokenCount, f_parseValue, f_parsePlace, a_ruleTerms, a_ruleLengths, a_skips, a_grammar, a_ranks, a_groupings, a_text, a_heads, a_tails, a_empties, a_placeLetters, a_followers, a_ruleEnds, a_sets, a_steps, a_classes, a_finerClasses, a_states, a_moves, a_begins, a_lookaheads, a_builtCounts, a_builtSteps, a_builtMatches, a_builtSkips, a_builtGrammar, a_builtMoves, a_builtActions, a_tokenRules, a_tokenBegins, a_tokenEnds, a_stackStates, a_stackValues⟩ := u
  obtain ⟨g_productions, g_start, g_sets, g_states, g_conflicts, g_ready, g_length, g_tokens, g_stuck, g_scanned, g_value, g_place, b_term, b_size, b_skipped, b_left, b_right, b_width, b_op, b_constant, b_rank, b_grouping, b_bTerm, b_bSize, b_bSkipped, b_bLeft, b_bWidth, b_bOp, b_bConstant, b_follow, b_ends, b_first, b_last, b_none, b_set, b_leads, b_apart, b_state, b_to, b_look, b_begins, b_nullable, b_act, b_built, b_leadTo, b_text, b_fits, b_token, b_stack, b_worth⟩ := v
  have I0 := I
  obtain ⟨rfl, rfl, rfl, rfl, rfl, rfl, rfl, rfl, hr, hg, ht, hb⟩ := I
  obtain ⟨pc, L, W, R, rfl, rfl, hV, hX, hY, hO⟩ := hg
  have hpc := hV.1
  unfold wpX_action wpY_action
  dsimp only
  rcases zn_bel v1 (n := pc) (by omega) with h1 | ⟨p, hp, rfl⟩
  · exact ib_f h1 (br_t rfl (am_f h1 (br_t rfl ⟨rfl, I0⟩)))
  rcases zn_bel v2 (n := 4) (by omega) with h2 | ⟨o, ho, rfl⟩
  · exact ib_t p pc hp (br_f (by decide) (ib_f h2 (br_t rfl (am_t p pc hp (br_f (by decide) (am_f h2 (br_t rfl ⟨rfl, I0⟩)))))))
  have e5 : nI p * 7 + 5 = nI (7 * p + 5) := by rw [show (7 : Int32) = nI 7 from rfl, show (5 : Int32) = nI 5 from rfl, pk_mul, nI_add]; congr 1; omega
  have e6 : nI p * 7 + 6 = nI (7 * p + 6) := by rw [show (7 : Int32) = nI 7 from rfl, show (6 : Int32) = nI 6 from rfl, pk_mul, nI_add]; congr 1; omega
  have i1 : vp_in (nI p) 8 := vp_in_nI (by omega) (by omega)
  refine ib_t p pc hp (br_f (by decide) (ib_t o 4 ho (br_f (by decide) ?_)))
  rw [e5, e6, nI_clamp (by omega), nI_clamp (by omega)]
  refine ⟨vp_in_nI (by omega) (by omega), nm_e ⟨vp_in_nI (by omega) (by omega), nm_e ?_⟩⟩
  refine am_t p pc hp (br_f (by decide) (am_t o 4 ho (br_f (by decide) ?_)))
  rw [nI_clamp (by omega)]
  refine ⟨i1, nm_e ⟨i1, nm_e ⟨rfl, rl_mk rfl rfl rfl rfl rfl rfl rfl rfl hr ?_ ht hb⟩⟩⟩
  exact ⟨pc, L, W, R, rfl, rfl, hV, gr_Xact (fun p => (hV.2.1 p).2.1) hX, hY, gr_Oact ho hO⟩
theorem zi_9 {s : Int32} (h : s < 10) : s ≤ 9 := by
  rw [Int32.lt_iff_toInt_lt, show (10 : Int32).toInt = 10 from by decide] at h
  rw [Int32.le_iff_toInt_le, show (9 : Int32).toInt = 9 from by decide]
  omega
theorem zi_m1 {s : Int32} (h : s < 0) : s ≤ -1 := by
  rw [Int32.lt_iff_toInt_lt, show (0 : Int32).toInt = 0 from by decide] at h
  rw [Int32.le_iff_toInt_le, show (-1 : Int32).toInt = -1 from by decide]
  omega
def okS (s : Int32) : Prop := s = -1 ∨ ∃ j, sym j ∧ s = nI j
def okL (s : Int32) : Prop := ∃ j, (10 ≤ j ∧ j < 13) ∧ s = nI j
theorem xn_t {post : Int32 → Prop} {s : Int32} (h : okL s) (hp : post 1) : wpX_isNonterminal post s := by
  obtain ⟨j, hj, rfl⟩ := h
  exact pk_lt j 10 (fun z => absurd z (by omega)) (fun _ => pk_le 13 j (fun z => absurd z (by omega)) (fun _ => hp))
theorem nl_c {s : Int32} (h : ¬ okL s) : s < 10 ∨ 13 ≤ s := by
  rcases pk_ix s (n := 13) (by omega) with h1 | h1 | ⟨j, hj, rfl⟩
  · exact Or.inl (Int32.lt_trans h1 (by decide))
  · exact Or.inr h1
  · exact Or.inl (nI_lt (b := 10) (Nat.lt_of_not_le fun z => h ⟨j, ⟨z, hj⟩, rfl⟩) (by omega))
theorem xn_f {post : Int32 → Prop} {s : Int32} (h : ¬ okL s) (hp : post 0) : wpX_isNonterminal post s := by
  rcases nl_c h with h1 | h1
  · exact br_t h1 hp
  · exact br_c (fun _ => hp) (fun _ => br_t h1 hp)
theorem xs_t {post : Int32 → Prop} {s : Int32} (h : okS s) (hp : post 1) : wpX_isSymbolOrNone post s := by
  rcases h with rfl | ⟨j, hj, rfl⟩
  · exact br_t rfl hp
  · rcases hj with hj | hj
    · exact br_f (zn_ne1 (by omega)) (ib_t j 4 hj (br_f (by decide) hp))
    · exact br_f (zn_ne1 (by omega)) (ib_f (Or.inr (nI_le (a := 4) (by omega) (by omega))) (br_t rfl (xn_t ⟨j, hj, rfl⟩ (br_f (by decide) hp))))
theorem xs_f {post : Int32 → Prop} {s : Int32} (h : ¬ okS s) (hp : post 0) : wpX_isSymbolOrNone post s := by
  refine br_f (fun e => h (Or.inl e)) ?_
  have hn : ¬ okL s := fun ⟨j, hj, e⟩ => h (Or.inr ⟨j, Or.inr hj, e⟩)
  refine ib_f ?_ (br_t rfl (xn_f hn (br_t rfl hp)))
  rcases zn_bel s (n := 4) (by omega) with h1 | ⟨j, hj, rfl⟩
  · exact h1
  · exact absurd (Or.inr ⟨j, Or.inl hj, rfl⟩) h
section
variable {g_productions : Int32} {g_start : Int64} {g_sets g_states g_conflicts g_ready g_length g_tokens g_stuck g_scanned g_value g_place : Int32} {b_term b_size b_skipped b_left b_right b_width b_op b_constant b_rank b_grouping b_bTerm b_bSize b_bSkipped b_bLeft b_bWidth b_bOp b_bConstant : Nat → Int32} {b_follow b_ends b_first b_last : Nat → Int64} {b_none : Nat → Int32} {b_set : Nat → Int64} {b_leads b_apart : Nat → Int32} {b_state : Nat → Int64} {b_to b_look b_begins b_nullable b_act b_built b_leadTo b_text b_fits b_token b_stack b_worth : Nat → Int32} {post : Int32 → Prop} {s : Int32}
theorem ys_t (h : okS s) (hp : post 1) : wpY_symbol post (g_productions, g_start, g_sets, g_states, g_conflicts, g_ready, g_length, g_tokens, g_stuck, g_scanned, g_value, g_place, b_term, b_size, b_skipped, b_left, b_right, b_width, b_op, b_constant, b_rank, b_grouping, b_bTerm, b_bSize, b_bSkipped, b_bLeft, b_bWidth, b_bOp, b_bConstant, b_follow, b_ends, b_first, b_last, b_none, b_set, b_leads, b_apart, b_state, b_to, b_look, b_begins, b_nullable, b_act, b_built, b_leadTo, b_text, b_fits, b_token, b_stack, b_worth) s := by
  rcases h with rfl | ⟨j, hj, rfl⟩
  · exact br_f (by decide) (br_t (by decide) hp)
  · have h0 : ¬ nI j < -1 := fun z => nI_pos (n := j) (by rcases hj with h | h <;> omega) (Int32.lt_trans z (by decide))
    rcases hj with hj | hj
    · exact br_f h0 (br_t (nI_lt (b := 4) hj (by omega)) hp)
    · exact br_f h0 (br_f (nI_nlt (b := 4) (by omega) (by omega)) (br_f (nI_ge (b := j) (a := 9) (by omega) (by omega)) (br_f (nI_ge (b := 13) hj.2 (by omega)) hp)))
theorem ys_f (h : ¬ okS s) (hp : post 0) : wpY_symbol post (g_productions, g_start, g_sets, g_states, g_conflicts, g_ready, g_length, g_tokens, g_stuck, g_scanned, g_value, g_place, b_term, b_size, b_skipped, b_left, b_right, b_width, b_op, b_constant, b_rank, b_grouping, b_bTerm, b_bSize, b_bSkipped, b_bLeft, b_bWidth, b_bOp, b_bConstant, b_follow, b_ends, b_first, b_last, b_none, b_set, b_leads, b_apart, b_state, b_to, b_look, b_begins, b_nullable, b_act, b_built, b_leadTo, b_text, b_fits, b_token, b_stack, b_worth) s := by
  have hn : ¬ okL s := fun ⟨j, hj, e⟩ => h (Or.inr ⟨j, Or.inr hj, e⟩)
  have h10 : wY_symbol_10 post s g_productions g_start g_sets g_states g_conflicts g_ready g_length g_tokens g_stuck g_scanned g_value g_place b_term b_size b_skipped b_left b_right b_width b_op b_constant b_rank b_grouping b_bTerm b_bSize b_bSkipped b_bLeft b_bWidth b_bOp b_bConstant b_follow b_ends b_first b_last b_none b_set b_leads b_apart b_state b_to b_look b_begins b_nullable b_act b_built b_leadTo b_text b_fits b_token b_stack b_worth := by
    rcases nl_c hn with h1 | h1
    · exact br_t (zi_9 h1) hp
    · exact br_c (fun _ => hp) (fun _ => br_t h1 hp)
  rcases zn_bel s (n := 4) (by omega) with h1 | ⟨j, hj, rfl⟩
  · rcases h1 with h1 | h1
    · by_cases h2 : s < -1
      · exact br_t h2 h10
      · exact absurd (Or.inl (Int32.le_antisymm (zi_m1 h1) (Int32.not_lt.mp h2))) h
    · exact br_c (fun _ => h10) (fun _ => br_f (Int32.not_lt.mpr h1) h10)
  · exact absurd (Or.inr ⟨j, Or.inl hj, rfl⟩) h
end

/-- what produce wants -/
def pr_c (pc : Nat) (a b c d : Int32) : Prop := pc ≠ 8 ∧ okL a ∧ okS b ∧ okS c ∧ okS d ∧ (b ≠ -1 ∨ c = -1) ∧ (c ≠ -1 ∨ d = -1)
theorem sn_lt {s : Int32} (h : okS s) (h1 : s ≠ -1) : 0 ≤ s := by
  rcases h with h | ⟨j, hj, rfl⟩
  · exact absurd h h1
  · exact nI_pos' (by rcases hj with h | h <;> omega)
section
variable {f_productionCount f_textLength f_anythingBuilt f_tokenCount f_parseValue f_parsePlace : Int32} {a_ruleTerms a_ruleLengths a_skips a_grammar a_ranks a_groupings a_text a_heads a_tails a_empties a_placeLetters a_followers a_ruleEnds : Nat → Int32} {a_sets : Nat → Int64} {a_steps a_classes a_finerClasses : Nat → Int32} {a_states : Nat → Int64} {a_moves a_begins a_lookaheads a_builtCounts a_builtSteps a_builtMatches a_builtSkips a_builtGrammar a_builtMoves a_builtActions a_tokenRules a_tokenBegins a_tokenEnds a_stackStates a_stackValues : Nat → Int32} {post : Int32 → SX → Prop} {pc : Nat} {v1 v2 v3 v4 : Int32}
theorem xp_f (hpc : pc ≤ 8) (h : ¬ pr_c pc v1 v2 v3 v4) (hp : post (-1) (nI pc, f_textLength, f_anythingBuilt, f_tokenCount, f_parseValue, f_parsePlace, a_ruleTerms, a_ruleLengths, a_skips, a_grammar, a_ranks, a_groupings, a_text, a_heads, a_tails, a_empties, a_placeLetters, a_followers, a_ruleEnds, a_sets, a_steps, a_classes, a_finerClasses, a_states, a_moves, a_begins, a_lookaheads, a_builtCounts, a_builtSteps, a_builtMatches, a_builtSkips, a_builtGrammar, a_builtMoves, a_builtActions, a_tokenRules, a_tokenBegins, a_tokenEnds, a_stackStates, a_stackValues)) : wpX_produce post (nI pc, f_textLength, f_anythingBuilt, f_tokenCount, f_parseValue, f_parsePlace, a_ruleTerms, a_ruleLengths, a_skips, a_grammar, a_ranks, a_groupings, a_text, a_heads, a_tails, a_empties, a_placeLetters, a_followers, a_ruleEnds, a_sets, a_steps, a_classes, a_finerClasses, a_states, a_moves, a_begins, a_lookaheads, a_builtCounts, a_builtSteps, a_builtMatches, a_builtSkips, a_builtGrammar, a_builtMoves, a_builtActions, a_tokenRules, a_tokenBegins, a_tokenEnds, a_stackStates, a_stackValues) v1 v2 v3 v4 := by
  unfold wpX_produce
  dsimp only
  refine pk_eq pc 8 (fun _ => hp) (fun e8 => ?_)
  by_cases hL : okL v1
  · refine xn_t hL (br_f (by decide) ?_)
    unfold wpX_isRightSide
    by_cases h2 : okS v2
    · refine xs_t h2 (br_f (by decide) ?_)
      by_cases h3 : okS v3
      · refine xs_t h3 (br_f (by decide) ?_)
        by_cases h4 : okS v4
        · refine xs_t h4 (br_f (by decide) ?_)
          have q : ¬ (v3 ≠ -1 ∨ v4 = -1) → v3 = -1 ∧ v4 ≠ -1 := fun z => ⟨Decidable.byContradiction fun y => z (Or.inl y), fun y => z (Or.inr y)⟩
          by_cases s1 : v2 = -1
          · refine br_t s1 ?_
            by_cases s2 : v3 = -1
            · have := q (fun z => h ⟨e8, hL, h2, h3, h4, Or.inr s2, z⟩)
              exact br_t s2 (br_t s2 (br_f this.2 (br_t rfl hp)))
            · exact br_f s2 (br_t rfl hp)
          · have := q (fun z => h ⟨e8, hL, h2, h3, h4, Or.inl s1, z⟩)
            exact br_f s1 (br_t this.1 (br_f this.2 (br_t rfl hp)))
        · exact xs_f h4 (br_t rfl (br_t rfl hp))
      · exact xs_f h3 (br_t rfl (br_t rfl hp))
    · exact xs_f h2 (br_t rfl (br_t rfl hp))
  · exact xn_f hL (br_t rfl hp)
theorem xp_t (h : pr_c pc v1 v2 v3 v4) (w : Nat) (hw : (v2 = -1 ∧ w = 0) ∨ (v2 ≠ -1 ∧ v3 = -1 ∧ w = 1) ∨ (v2 ≠ -1 ∧ v3 ≠ -1 ∧ v4 = -1 ∧ w = 2) ∨ (v2 ≠ -1 ∧ v3 ≠ -1 ∧ v4 ≠ -1 ∧ w = 3)) (hpc : pc ≤ 8)
    (hp : post (nI pc) (nI (pc + 1), f_textLength, f_anythingBuilt, f_tokenCount, f_parseValue, f_parsePlace, a_ruleTerms, a_ruleLengths, a_skips, upd (upd (upd (upd (upd (upd (upd a_grammar (7 * pc) v1) (7 * pc + 1) (nI w)) (7 * pc + 2) v2) (7 * pc + 3) v3) (7 * pc + 4) v4) (7 * pc + 5) 0) (7 * pc + 6) 0, a_ranks, a_groupings, a_text, a_heads, a_tails, a_empties, a_placeLetters, a_followers, a_ruleEnds, a_sets, a_steps, a_classes, a_finerClasses, a_states, a_moves, a_begins, a_lookaheads, a_builtCounts, a_builtSteps, a_builtMatches, a_builtSkips, a_builtGrammar, a_builtMoves, a_builtActions, a_tokenRules, a_tokenBegins, a_tokenEnds, a_stackStates, a_stackValues)) :
    wpX_produce post (nI pc, f_textLength, f_anythingBuilt, f_tokenCount, f_parseValue, f_parsePlace, a_ruleTerms, a_ruleLengths, a_skips, a_grammar, a_ranks, a_groupings, a_text, a_heads, a_tails, a_empties, a_placeLetters, a_followers, a_ruleEnds, a_sets, a_steps, a_classes, a_finerClasses, a_states, a_moves, a_begins, a_lookaheads, a_builtCounts, a_builtSteps, a_builtMatches, a_builtSkips, a_builtGrammar, a_builtMoves, a_builtActions, a_tokenRules, a_tokenBegins, a_tokenEnds, a_stackStates, a_stackValues) v1 v2 v3 v4 := by
  obtain ⟨e8, hL, h2, h3, h4, s1, s2⟩ := h
  have f : ∀ d, nI pc * 7 + nI d = nI (7 * pc + d) := fun d => by rw [show (7 : Int32) = nI 7 from rfl, pk_mul, nI_add]; congr 1; omega
  have key : ∀ (z : Int32) (e : z = nI w) (gr : Nat → Int32), gr = upd a_grammar (7 * pc) v1 → wX_produce_84 post v2 v3 v4 (nI pc * 7) z (nI pc * 7 + 1) (nI pc) f_textLength f_anythingBuilt f_tokenCount f_parseValue f_parsePlace a_ruleTerms a_ruleLengths a_skips gr a_ranks a_groupings a_text a_heads a_tails a_empties a_placeLetters a_followers a_ruleEnds a_sets a_steps a_classes a_finerClasses a_states a_moves a_begins a_lookaheads a_builtCounts a_builtSteps a_builtMatches a_builtSkips a_builtGrammar a_builtMoves a_builtActions a_tokenRules a_tokenBegins a_tokenEnds a_stackStates a_stackValues := by
    intro z e gr eg
    subst e eg
    unfold wX_produce_84
    rw [show nI pc * 7 + 2 + 1 = nI (7 * pc + 3) from by rw [show (2 : Int32) = nI 2 from rfl, f]; exact nI_1 _, show nI pc * 7 + 2 + 2 = nI (7 * pc + 4) from by rw [show (2 : Int32) = nI 2 from rfl, f, nI_add], show nI pc * 7 + 1 = nI (7 * pc + 1) from f 1, show nI pc * 7 + 2 = nI (7 * pc + 2) from f 2, show nI pc * 7 + 5 = nI (7 * pc + 5) from f 5, show nI pc * 7 + 6 = nI (7 * pc + 6) from f 6]
    rw [nI_clamp (by omega), nI_clamp (by omega), nI_clamp (by omega), nI_clamp (by omega), nI_clamp (by omega), nI_clamp (by omega)]
    refine ⟨vp_in_nI (by omega) (by omega), nm_e ⟨vp_in_nI (by omega) (by omega), nm_e ⟨vp_in_nI (by omega) (by omega), nm_e ⟨vp_in_nI (by omega) (by omega), nm_e ⟨vp_in_nI (by omega) (by omega), nm_e ⟨vp_in_nI (by omega) (by omega), nm_e (nm_r (nI_1 pc) ?_)⟩⟩⟩⟩⟩⟩
    rw [nI_pred]
    exact hp
  unfold wpX_produce
  dsimp only
  refine pk_eq pc 8 (fun e => absurd e e8) (fun _ => xn_t hL (br_f (by decide) ?_))
  unfold wpX_isRightSide
  refine xs_t h2 (br_f (by decide) (xs_t h3 (br_f (by decide) (xs_t h4 (br_f (by decide) ?_)))))
  have go : ∀ {P : Prop}, ((1 : Int32) = 0 → P) ∧ (¬ (1 : Int32) = 0 → (∀ x5_6 : Int32, x5_6 = nI pc * 7 → vp_in (x5_6 + 0) 63 ∧ ∀ a_grammar_8 : Nat → Int32, a_grammar_8 = upd a_grammar (x5_6 + 0).toNatClampNeg v1 → (v2 = -1 → wX_produce_84 post v2 v3 v4 x5_6 0 (x5_6 + 1) (nI pc) f_textLength f_anythingBuilt f_tokenCount f_parseValue f_parsePlace a_ruleTerms a_ruleLengths a_skips a_grammar_8 a_ranks a_groupings a_text a_heads a_tails a_empties a_placeLetters a_followers a_ruleEnds a_sets a_steps a_classes a_finerClasses a_states a_moves a_begins a_lookaheads a_builtCounts a_builtSteps a_builtMatches a_builtSkips a_builtGrammar a_builtMoves a_builtActions a_tokenRules a_tokenBegins a_tokenEnds a_stackStates a_stackValues) ∧ (¬ v2 = -1 → (v3 = -1 → wX_produce_84 post v2 v3 v4 x5_6 1 (x5_6 + 1) (nI pc) f_textLength f_anythingBuilt f_tokenCount f_parseValue f_parsePlace a_ruleTerms a_ruleLengths a_skips a_grammar_8 a_ranks a_groupings a_text a_heads a_tails a_empties a_placeLetters a_followers a_ruleEnds a_sets a_steps a_classes a_finerClasses a_states a_moves a_begins a_lookaheads a_builtCounts a_builtSteps a_builtMatches a_builtSkips a_builtGrammar a_builtMoves a_builtActions a_tokenRules a_tokenBegins a_tokenEnds a_stackStates a_stackValues) ∧ (¬ v3 = -1 → (v4 = -1 → wX_produce_84 post v2 v3 v4 x5_6 2 (x5_6 + 1) (nI pc) f_textLength f_anythingBuilt f_tokenCount f_parseValue f_parsePlace a_ruleTerms a_ruleLengths a_skips a_grammar_8 a_ranks a_groupings a_text a_heads a_tails a_empties a_placeLetters a_followers a_ruleEnds a_sets a_steps a_classes a_finerClasses a_states a_moves a_begins a_lookaheads a_builtCounts a_builtSteps a_builtMatches a_builtSkips a_builtGrammar a_builtMoves a_builtActions a_tokenRules a_tokenBegins a_tokenEnds a_stackStates a_stackValues) ∧ (¬ v4 = -1 → wX_produce_84 post v2 v3 v4 x5_6 3 (x5_6 + 1) (nI pc) f_textLength f_anythingBuilt f_tokenCount f_parseValue f_parsePlace a_ruleTerms a_ruleLengths a_skips a_grammar_8 a_ranks a_groupings a_text a_heads a_tails a_empties a_placeLetters a_followers a_ruleEnds a_sets a_steps a_classes a_finerClasses a_states a_moves a_begins a_lookaheads a_builtCounts a_builtSteps a_builtMatches a_builtSkips a_builtGrammar a_builtMoves a_builtActions a_tokenRules a_tokenBegins a_tokenEnds a_stackStates a_stackValues))))) := by
    intro P
    refine br_f (by decide) (nm_e ?_)
    rw [show nI pc * 7 + 0 = nI (7 * pc) from f 0, nI_clamp (by omega)]
    refine ⟨vp_in_nI (by omega) (by omega), nm_e ?_⟩
    rcases hw with ⟨a, e⟩ | ⟨a, b, e⟩ | ⟨a, b, c, e⟩ | ⟨a, b, c, e⟩
    · exact br_t a (key _ (by rw [e]; rfl) _ rfl)
    · exact br_f a (br_t b (key _ (by rw [e]; rfl) _ rfl))
    · exact br_f a (br_f b (br_t c (key _ (by rw [e]; rfl) _ rfl)))
    · exact br_f a (br_f b (br_f c (key _ (by rw [e]; rfl) _ rfl)))
  have g33 : v3 ≠ -1 ∨ v4 = -1 → ∀ {Q : Int32 → Prop}, Q 1 → wX_isRightSide_33 Q v3 v4 := by
    intro hz Q hQ
    by_cases a : v3 = -1
    · exact br_t a (br_t (hz.resolve_left (fun z => z a)) hQ)
    · exact br_f a hQ
  by_cases a : v2 = -1
  · exact br_t a (br_t (s1.resolve_left (fun z => z a)) (g33 s2 go))
  · exact br_f a (g33 s2 go)
end
section
variable {g_productions : Int32} {g_start : Int64} {g_sets g_states g_conflicts g_ready g_length g_tokens g_stuck g_scanned g_value g_place : Int32} {b_term b_size b_skipped b_left b_right b_width b_op b_constant b_rank b_grouping b_bTerm b_bSize b_bSkipped b_bLeft b_bWidth b_bOp b_bConstant : Nat → Int32} {b_follow b_ends b_first b_last : Nat → Int64} {b_none : Nat → Int32} {b_set : Nat → Int64} {b_leads b_apart : Nat → Int32} {b_state : Nat → Int64} {b_to b_look b_begins b_nullable b_act b_built b_leadTo b_text b_fits b_token b_stack b_worth : Nat → Int32} {post : Int32 → SY → Prop} {pc : Nat} {v1 v2 v3 v4 : Int32}
theorem yp_f (hpc : pc ≤ 8) (h : ¬ pr_c pc v1 v2 v3 v4) (hp : post (-1) (nI pc, g_start, g_sets, g_states, g_conflicts, g_ready, g_length, g_tokens, g_stuck, g_scanned, g_value, g_place, b_term, b_size, b_skipped, b_left, b_right, b_width, b_op, b_constant, b_rank, b_grouping, b_bTerm, b_bSize, b_bSkipped, b_bLeft, b_bWidth, b_bOp, b_bConstant, b_follow, b_ends, b_first, b_last, b_none, b_set, b_leads, b_apart, b_state, b_to, b_look, b_begins, b_nullable, b_act, b_built, b_leadTo, b_text, b_fits, b_token, b_stack, b_worth)) : wpY_produce post (nI pc, g_start, g_sets, g_states, g_conflicts, g_ready, g_length, g_tokens, g_stuck, g_scanned, g_value, g_place, b_term, b_size, b_skipped, b_left, b_right, b_width, b_op, b_constant, b_rank, b_grouping, b_bTerm, b_bSize, b_bSkipped, b_bLeft, b_bWidth, b_bOp, b_bConstant, b_follow, b_ends, b_first, b_last, b_none, b_set, b_leads, b_apart, b_state, b_to, b_look, b_begins, b_nullable, b_act, b_built, b_leadTo, b_text, b_fits, b_token, b_stack, b_worth) v1 v2 v3 v4 := by
  unfold wpY_produce
  dsimp only
  by_cases hL : okL v1
  · obtain ⟨l, hl, rfl⟩ := hL
    refine br_f (nI_nlt (b := 10) hl.1 (by omega)) (br_f (nI_nlt (a := 12) (by omega) (by omega)) ?_)
    by_cases h2 : okS v2
    · refine ys_t h2 (br_f (by decide) ?_)
      by_cases h3 : okS v3
      · refine ys_t h3 (br_f (by decide) ?_)
        by_cases h4 : okS v4
        · refine ys_t h4 (br_f (by decide) ?_)
          have w54 : (pc ≠ 8 → (v2 ≠ -1 ∨ v3 = -1) → (v3 ≠ -1 ∨ v4 = -1) → False) → (v2 ≠ -1 ∨ v3 = -1) → wY_produce_45 post (nI l) v2 v3 v4 (nI pc) g_start g_sets g_states g_conflicts g_ready g_length g_tokens g_stuck g_scanned g_value g_place b_term b_size b_skipped b_left b_right b_width b_op b_constant b_rank b_grouping b_bTerm b_bSize b_bSkipped b_bLeft b_bWidth b_bOp b_bConstant b_follow b_ends b_first b_last b_none b_set b_leads b_apart b_state b_to b_look b_begins b_nullable b_act b_built b_leadTo b_text b_fits b_token b_stack b_worth := by
            intro hz s1
            by_cases s2 : v3 = -1
            · by_cases s3 : v4 = -1
              · rw [s2, s3]
                refine br_f (by decide) (br_f (by decide) (pk_eq pc 8 (fun _ => hp) (fun e => absurd (hz e s1 (Or.inr s3)) id)))
              · refine br_f (by rw [s2]; decide) (br_t (sn_lt h4 s3) hp)
            · exact br_t (sn_lt h3 s2) (pk_eq pc 8 (fun _ => hp) (fun e => absurd (hz e s1 (Or.inl s2)) id))
          have hz : pc ≠ 8 → (v2 ≠ -1 ∨ v3 = -1) → (v3 ≠ -1 ∨ v4 = -1) → False := fun a b c => h ⟨a, ⟨l, hl, rfl⟩, h2, h3, h4, b, c⟩
          by_cases s1 : v2 = -1
          · refine br_f (by rw [s1]; decide) ?_
            by_cases s2 : v3 = -1
            · exact br_f (by rw [s2]; decide) (w54 hz (Or.inr s2))
            · exact br_t (sn_lt h3 s2) hp
          · exact br_t (sn_lt h2 s1) (w54 hz (Or.inl s1))
        · exact ys_f h4 (br_t rfl hp)
      · exact ys_f h3 (br_t rfl hp)
    · exact ys_f h2 (br_t rfl hp)
  · by_cases a : v1 < 10
    · exact br_t a hp
    · refine br_f a (br_t ?_ hp)
      have := (nl_c hL).resolve_left a
      exact Int32.lt_of_lt_of_le (by decide) this
theorem yp_t (h : pr_c pc v1 v2 v3 v4) (w : Nat) (hw : (v2 = -1 ∧ w = 0) ∨ (v2 ≠ -1 ∧ v3 = -1 ∧ w = 1) ∨ (v2 ≠ -1 ∧ v3 ≠ -1 ∧ v4 = -1 ∧ w = 2) ∨ (v2 ≠ -1 ∧ v3 ≠ -1 ∧ v4 ≠ -1 ∧ w = 3)) (hpc : pc ≤ 8)
    (hp : post (nI pc) (nI (pc + 1), g_start, g_sets, g_states, g_conflicts, g_ready, g_length, g_tokens, g_stuck, g_scanned, g_value, g_place, b_term, b_size, b_skipped, upd b_left pc v1, upd (upd (upd b_right (3 * pc) v2) (3 * pc + 1) v3) (3 * pc + 2) v4, upd b_width pc (nI w), upd b_op pc 0, upd b_constant pc 0, b_rank, b_grouping, b_bTerm, b_bSize, b_bSkipped, b_bLeft, b_bWidth, b_bOp, b_bConstant, b_follow, b_ends, b_first, b_last, b_none, b_set, b_leads, b_apart, b_state, b_to, b_look, b_begins, b_nullable, b_act, b_built, b_leadTo, b_text, b_fits, b_token, b_stack, b_worth)) :
    wpY_produce post (nI pc, g_start, g_sets, g_states, g_conflicts, g_ready, g_length, g_tokens, g_stuck, g_scanned, g_value, g_place, b_term, b_size, b_skipped, b_left, b_right, b_width, b_op, b_constant, b_rank, b_grouping, b_bTerm, b_bSize, b_bSkipped, b_bLeft, b_bWidth, b_bOp, b_bConstant, b_follow, b_ends, b_first, b_last, b_none, b_set, b_leads, b_apart, b_state, b_to, b_look, b_begins, b_nullable, b_act, b_built, b_leadTo, b_text, b_fits, b_token, b_stack, b_worth) v1 v2 v3 v4 := by
  obtain ⟨e8, ⟨l, hl, rfl⟩, h2, h3, h4, s1, s2⟩ := h
  have f : ∀ d, 3 * nI pc + nI d = nI (3 * pc + d) := fun d => by rw [show (3 : Int32) = nI 3 from rfl, pk_mul, nI_add]
  have f0 : 3 * nI pc = nI (3 * pc) := by rw [show (3 : Int32) = nI 3 from rfl, pk_mul]
  have key : wY_produce_54 post (nI l) v2 v3 v4 (nI pc) g_start g_sets g_states g_conflicts g_ready g_length g_tokens g_stuck g_scanned g_value g_place b_term b_size b_skipped b_left b_right b_width b_op b_constant b_rank b_grouping b_bTerm b_bSize b_bSkipped b_bLeft b_bWidth b_bOp b_bConstant b_follow b_ends b_first b_last b_none b_set b_leads b_apart b_state b_to b_look b_begins b_nullable b_act b_built b_leadTo b_text b_fits b_token b_stack b_worth := by
    unfold wY_produce_54 wY_produce_153
    rw [show 3 * nI pc + 1 = nI (3 * pc + 1) from f 1, show 3 * nI pc + 2 = nI (3 * pc + 2) from f 2, f0]
    rw [nI_clamp (by omega), nI_clamp (by omega), nI_clamp (by omega), nI_clamp (by omega)]
    refine pk_eq pc 8 (fun e => absurd e e8) (fun _ => nm_r (nI_1 pc) ⟨vp_in_nI (by omega) (by omega), nm_e ⟨vp_in_nI (by omega) (by omega), nm_e ⟨vp_in_nI (by omega) (by omega), nm_e ⟨vp_in_nI (by omega) (by omega), nm_e ?_⟩⟩⟩⟩)
    have i9 : vp_in (nI pc) 9 := vp_in_nI (by omega) (by omega)
    have i8 : vp_in (nI pc) 8 := vp_in_nI (by omega) (by omega)
    rcases hw with ⟨a, rfl⟩ | ⟨a, b, rfl⟩ | ⟨a, b, c, rfl⟩ | ⟨a, b, c, rfl⟩
    · exact br_f (by rw [a]; decide) ⟨i9, nm_e ⟨i8, nm_e ⟨i8, nm_e hp⟩⟩⟩
    · exact br_t (sn_lt h2 a) (br_f (by rw [b]; decide) ⟨i9, nm_e ⟨i8, nm_e ⟨i8, nm_e hp⟩⟩⟩)
    · exact br_t (sn_lt h2 a) (br_t (sn_lt h3 b) (br_f (by rw [c]; decide) ⟨i9, nm_e ⟨i8, nm_e ⟨i8, nm_e hp⟩⟩⟩))
    · exact br_t (sn_lt h2 a) (br_t (sn_lt h3 b) (br_t (sn_lt h4 c) ⟨i9, nm_e ⟨i8, nm_e ⟨i8, nm_e hp⟩⟩⟩))
  have key2 : wY_produce_45 post (nI l) v2 v3 v4 (nI pc) g_start g_sets g_states g_conflicts g_ready g_length g_tokens g_stuck g_scanned g_value g_place b_term b_size b_skipped b_left b_right b_width b_op b_constant b_rank b_grouping b_bTerm b_bSize b_bSkipped b_bLeft b_bWidth b_bOp b_bConstant b_follow b_ends b_first b_last b_none b_set b_leads b_apart b_state b_to b_look b_begins b_nullable b_act b_built b_leadTo b_text b_fits b_token b_stack b_worth := by
    by_cases a : v3 = -1
    · exact br_f (by rw [a]; decide) (br_f (by rw [s2.resolve_left (fun z => z a)]; decide) key)
    · exact br_t (sn_lt h3 a) key
  unfold wpY_produce
  dsimp only
  refine br_f (nI_nlt (b := 10) hl.1 (by omega)) (br_f (nI_nlt (a := 12) (by omega) (by omega)) ?_)
  refine ys_t h2 (br_f (by decide) (ys_t h3 (br_f (by decide) (ys_t h4 (br_f (by decide) ?_)))))
  by_cases a : v2 = -1
  · exact br_f (by rw [a]; decide) (br_f (by rw [s1.resolve_left (fun z => z a)]; decide) key2)
  · exact br_t (sn_lt h2 a) key2
end
theorem pr_g {g le ri wi op co : Nat → Int32} {pc : Nat} {L W : Nat → Nat} {R : Nat → Nat → Nat} (hV : gr_V pc L W R) (hX : gr_X g L W R) (hY : gr_Y le ri wi L W R) (hO : gr_O g op co) (h8 : pc ≠ 8)
    {l w : Nat} (hl : 10 ≤ l ∧ l < 13) (hw : w ≤ 3) {v2 v3 v4 : Int32} (rr : Nat → Nat) (hs : ∀ k, k < w → sym (rr k)) (a0 : 0 < w → v2 = nI (rr 0)) (a1 : 1 < w → v3 = nI (rr 1)) (a2 : 2 < w → v4 = nI (rr 2)) :
    rg (nI (pc + 1)) (nI (pc + 1)) (upd (upd (upd (upd (upd (upd (upd g (7 * pc) (nI l)) (7 * pc + 1) (nI w)) (7 * pc + 2) v2) (7 * pc + 3) v3) (7 * pc + 4) v4) (7 * pc + 5) 0) (7 * pc + 6) 0)
      (upd le pc (nI l)) (upd (upd (upd ri (3 * pc) v2) (3 * pc + 1) v3) (3 * pc + 2) v4) (upd wi pc (nI w)) (upd op pc 0) (upd co pc 0) := by
  obtain ⟨hpc, hV2, hV3, hV4, hV5, hV6⟩ := hV
  refine ⟨pc + 1, fun q => if q = pc then l else L q, fun q => if q = pc then w else W q, fun q k => if q = pc then rr k else R q k, rfl, rfl, ⟨by omega, ?_, ?_, ?_, ?_, ?_⟩, ?_, ?_, ?_⟩
  · intro q
    by_cases e : q = pc
    · simp only [e, if_pos]; exact ⟨by omega, hw, hs⟩
    · simp only [e, if_false]; exact hV2 q
  · intro q hq
    by_cases e : q = pc
    · simp only [e, if_pos]; exact hl
    · simp only [e, if_false]; exact hV3 q (by omega)
  · simp only [show ¬ 8 = pc by omega, if_false]; exact hV4
  · simp only [show ¬ 8 = pc by omega, if_false]; exact hV5
  · simp only [show ¬ 8 = pc by omega, if_false]; exact hV6
  · intro q hq
    by_cases e : q = pc
    · subst e
      simp only [if_pos]
      refine ⟨?_, ?_, fun k hk => ?_⟩
      · rw [pk_un (by omega), pk_un (by omega), pk_un (by omega), pk_un (by omega), pk_un (by omega), pk_un (by omega), pk_us]
      · rw [pk_un (by omega), pk_un (by omega), pk_un (by omega), pk_un (by omega), pk_un (by omega), pk_us]
      · have hk3 : k = 0 ∨ k = 1 ∨ k = 2 := by omega
        rw [pk_un (by omega), pk_un (by omega)]
        rcases hk3 with rfl | rfl | rfl
        · rw [pk_un (by omega), pk_un (by omega), Nat.add_zero, pk_us]; exact a0 hk
        · rw [pk_un (by omega), pk_us]; exact a1 hk
        · rw [pk_us]; exact a2 hk
    · simp only [e, if_false]
      obtain ⟨h1, h2, h3⟩ := hX q hq
      have hw3 := (hV2 q).2.1
      refine ⟨?_, ?_, fun k hk => ?_⟩
      · rw [pk_un (by omega), pk_un (by omega), pk_un (by omega), pk_un (by omega), pk_un (by omega), pk_un (by omega), pk_un (by omega)]; exact h1
      · rw [pk_un (by omega), pk_un (by omega), pk_un (by omega), pk_un (by omega), pk_un (by omega), pk_un (by omega), pk_un (by omega)]; exact h2
      · rw [pk_un (by omega), pk_un (by omega), pk_un (by omega), pk_un (by omega), pk_un (by omega), pk_un (by omega), pk_un (by omega)]; exact h3 k hk
  · intro q hq
    by_cases e : q = pc
    · subst e
      simp only [if_pos]
      refine ⟨pk_us, pk_us, fun k hk => ?_⟩
      have hk3 : k = 0 ∨ k = 1 ∨ k = 2 := by omega
      rcases hk3 with rfl | rfl | rfl
      · rw [pk_un (by omega), pk_un (by omega), Nat.add_zero, pk_us]; exact a0 hk
      · rw [pk_un (by omega), pk_us]; exact a1 hk
      · rw [pk_us]; exact a2 hk
    · simp only [e, if_false]
      obtain ⟨h1, h2, h3⟩ := hY q hq
      have hw3 := (hV2 q).2.1
      refine ⟨by rw [pk_un e]; exact h1, by rw [pk_un e]; exact h2, fun k hk => ?_⟩
      rw [pk_un (by omega), pk_un (by omega), pk_un (by omega)]; exact h3 k hk
  · intro q hq
    obtain ⟨h1, h2, h3⟩ := hO q hq
    by_cases e : q = pc
    · subst e
      rw [pk_us, pk_un (by omega), pk_us, pk_us, pk_us]
      exact ⟨rfl, rfl, 0, by omega, rfl⟩
    · refine ⟨?_, ?_, ?_⟩
      · rw [pk_un (by omega), pk_un (by omega), pk_un (by omega), pk_un (by omega), pk_un (by omega), pk_un (by omega), pk_un (by omega), pk_un e]; exact h1
      · rw [pk_un (by omega), pk_un (by omega), pk_un (by omega), pk_un (by omega), pk_un (by omega), pk_un (by omega), pk_un (by omega), pk_un e]; exact h2
      · rw [pk_un e]; exact h3
theorem i_vc_produce {k : Nat} {u : SX} {v : SY} (I : i_Rel k u v) (hk : k + 5 ≤ 2560) (v1 : Int32) (v2 : Int32) (v3 : Int32) (v4 : Int32) : wpX_produce (fun r u' => wpY_produce (fun r' v' => r' = r ∧ i_Rel (k + 5) u' v') v v1 v2 v3 v4) u v1 v2 v3 v4 := by
  obtain ⟨f_productionCount, f_textLength, f_anythingBuilt, f_tokenCount, f_parseValue, f_parsePlace, a_ruleTerms, a_ruleLengths, a_skips, a_grammar, a_ranks, a_groupings, a_text, a_heads, a_tails, a_empties, a_placeLetters, a_followers, a_ruleEnds, a_sets, a_steps, a_classes, a_finerClasses, a_states, a_moves, a_begins, a_lookaheads, a_builtCounts, a_builtSteps, a_builtMatches, a_builtSkips, a_builtGrammar, a_builtMoves, a_builtActions, a_tokenRules, a_tokenBegins, a_tokenEnds, a_stackStates, a_stackValues⟩ := u
  obtain ⟨g_productions, g_start, g_sets, g_states, g_conflicts, g_ready, g_length, g_tokens, g_stuck, g_scanned, g_value, g_place, b_term, b_size, b_skipped, b_left, b_right, b_width, b_op, b_constant, b_rank, b_grouping, b_bTerm, b_bSize, b_bSkipped, b_bLeft, b_bWidth, b_bOp, b_bConstant, b_follow, b_ends, b_first, b_last, b_none, b_set, b_leads, b_apart, b_state, b_to, b_look, b_begins, b_nullable, b_act, b_built, b_leadTo, b_text, b_fits, b_token, b_stack, b_worth⟩ := v
  have I0 := I
  obtain ⟨rfl, rfl, rfl, rfl, rfl, rfl, rfl, rfl, hr, hg, ht, hb⟩ := I
  obtain ⟨pc, L, W, R, rfl, rfl, hV, hX, hY, hO⟩ := hg
  by_cases h : pr_c pc v1 v2 v3 v4
  · have key : ∃ w, w ≤ 3 ∧ ((v2 = -1 ∧ w = 0) ∨ (v2 ≠ -1 ∧ v3 = -1 ∧ w = 1) ∨ (v2 ≠ -1 ∧ v3 ≠ -1 ∧ v4 = -1 ∧ w = 2) ∨ (v2 ≠ -1 ∧ v3 ≠ -1 ∧ v4 ≠ -1 ∧ w = 3)) ∧ ∃ rr : Nat → Nat, (∀ k, k < w → sym (rr k)) ∧ (0 < w → v2 = nI (rr 0)) ∧ (1 < w → v3 = nI (rr 1)) ∧ (2 < w → v4 = nI (rr 2)) := by
      obtain ⟨-, -, h2, h3, h4, -, -⟩ := h
      rcases h2 with h2 | ⟨j2, k2, e2⟩
      · exact ⟨0, by omega, Or.inl ⟨h2, rfl⟩, fun _ => 0, fun k hk => absurd hk (by omega), fun z => absurd z (by omega), fun z => absurd z (by omega), fun z => absurd z (by omega)⟩
      have n2 : v2 ≠ -1 := by rw [e2]; exact zn_ne1 (by rcases k2 with z | z <;> omega)
      rcases h3 with h3 | ⟨j3, k3, e3⟩
      · exact ⟨1, by omega, Or.inr (Or.inl ⟨n2, h3, rfl⟩), fun _ => j2, fun k hk => k2, fun z => e2, fun z => absurd z (by omega), fun z => absurd z (by omega)⟩
      have n3 : v3 ≠ -1 := by rw [e3]; exact zn_ne1 (by rcases k3 with z | z <;> omega)
      rcases h4 with h4 | ⟨j4, k4, e4⟩
      · refine ⟨2, by omega, Or.inr (Or.inr (Or.inl ⟨n2, n3, h4, rfl⟩)), fun k => if k = 0 then j2 else j3, fun k hk => ?_, fun z => e2, fun z => e3, fun z => absurd z (by omega)⟩
        dsimp only; split
        · exact k2
        · exact k3
      have n4 : v4 ≠ -1 := by rw [e4]; exact zn_ne1 (by rcases k4 with z | z <;> omega)
      refine ⟨3, by omega, Or.inr (Or.inr (Or.inr ⟨n2, n3, n4, rfl⟩)), fun k => if k = 0 then j2 else if k = 1 then j3 else j4, fun k hk => ?_, fun z => e2, fun z => e3, fun z => e4⟩
      dsimp only; split
      · exact k2
      · split
        · exact k3
        · exact k4
    obtain ⟨w, hw3, hw, rr, q0, q1, q2, q3⟩ := key
    refine xp_t h w hw hV.1 (yp_t h w hw hV.1 ⟨rfl, rl_mk rfl rfl rfl rfl rfl rfl rfl rfl hr ?_ ht hb⟩)
    obtain ⟨h8, ⟨l, hl, rfl⟩, -⟩ := h
    exact pr_g hV hX hY hO h8 hl hw3 rr q0 q1 q2 q3
  · exact xp_f hV.1 h (yp_f hV.1 h ⟨rfl, I0⟩)
