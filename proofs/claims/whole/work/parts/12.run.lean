/-! parse: the two machines step by step -/
theorem nat_ind {P : Nat → Prop} (h : ∀ d, (∀ e, d = e + 1 → P e) → P d) : ∀ d, P d
  | 0 => h 0 (fun e z => absurd z (by omega))
  | d + 1 => h (d + 1) (fun e z => by have : e = d := by omega
                                      subst this; exact nat_ind h e)
def sk_ok (ns : Nat) (mv : Nat → Int32) (top : Nat) (sk : Nat → Nat) (ss st sv wo : Nat → Int32) : Prop :=
  sk 0 = 0 ∧ (∀ j, j ≤ top → sk j < ns ∧ ss j = nI (sk j) ∧ st j = nI (sk j)) ∧ (∀ j, j < top → ∃ x, sym x ∧ mv (13 * sk j + x) = nI (sk (j + 1))) ∧ (∀ j, 1 ≤ j → j ≤ top → sv j = wo j)
theorem sk_push {ns : Nat} {mv : Nat → Int32} {top u t x : Nat} {sk : Nat → Nat} {ss st sv wo : Nat → Int32} {w : Int32} (h : sk_ok ns mv top sk ss st sv wo) (hu : u ≤ top) (hx : sym x) (ht : t < ns) (e : mv (13 * sk u + x) = nI t) :
    sk_ok ns mv (u + 1) (fun j => if j = u + 1 then t else sk j) (upd ss (u + 1) (nI t)) (upd st (u + 1) (nI t)) (upd sv (u + 1) w) (upd wo (u + 1) w) := by
  obtain ⟨h1, h2, h3, h4⟩ := h
  refine ⟨h1, fun j hj => ?_, fun j hj => ?_, fun j h0 hj => ?_⟩
  · dsimp only
    by_cases c : j = u + 1
    · subst c; rw [if_pos rfl, pk_us, pk_us]; exact ⟨ht, rfl, rfl⟩
    · rw [if_neg c, pk_un c, pk_un c]; exact h2 j (by omega)
  · dsimp only
    rw [if_neg (show ¬ j = u + 1 by omega)]
    by_cases c : j = u
    · subst c; rw [if_pos rfl]; exact ⟨x, hx, e⟩
    · rw [if_neg (by omega)]; exact h3 j (by omega)
  · by_cases c : j = u + 1
    · subst c; rw [pk_us, pk_us]
    · rw [pk_un c, pk_un c]; exact h4 j h0 (by omega)
theorem tw_cg {b b' : Nat → Bool} (h : ∀ t, t < 5 → b t = b' t) : twO b 5 = twO b' 5 := by
  simp only [twO, h 0 (by omega), h 1 (by omega), h 2 (by omega), h 3 (by omega), h 4 (by omega)]
theorem ac_i {S : Nat → Nat → Bool} {W : Nat → Nat} {mv : Nat → Int32} {s t : Nat} {a y : Int32} (h : ac_ok S W mv s t a y) : (!(a == -1)) = (!(y == 0)) := by
  rcases h with ⟨rfl, rfl⟩ | ⟨rfl, rfl, -⟩ | ⟨rfl, -, q, hq, -, rfl⟩ | ⟨p, hp, rfl, rfl, -⟩
  · rfl
  · rfl
  · have : ¬ nI (2 + q) = 0 := nI_ne0 (by omega) (by omega)
    rw [beq_eq_false_iff_ne.mpr this]; rfl
  · have h1 : ¬ nI (100 + p) = 0 := nI_ne0 (by omega) (by omega)
    have h2 : ¬ nI p = -1 := zn_ne1 (by omega)
    rw [beq_eq_false_iff_ne.mpr h1, beq_eq_false_iff_ne.mpr h2]
section
variable {g_productions : Int32} {g_start : Int64} {g_sets g_states g_conflicts g_ready g_length g_tokens g_stuck g_scanned g_value g_place : Int32} {b_term b_size b_skipped b_left b_right b_width b_op b_constant b_rank b_grouping b_bTerm b_bSize b_bSkipped b_bLeft b_bWidth b_bOp b_bConstant : Nat → Int32} {b_follow b_ends b_first b_last : Nat → Int64} {b_none : Nat → Int32} {b_set : Nat → Int64} {b_leads b_apart : Nat → Int32} {b_state : Nat → Int64} {b_to b_look b_begins b_nullable b_act b_built b_leadTo b_text b_fits b_token b_stack b_worth : Nat → Int32} {post : Int32 → SY → Prop} {J54 : Int32 → Int32 → Int32 → Int32 → Int32 → Int32 → Int32 → (Nat → Int32) → (Nat → Int32) → (Nat → Int32) → (Nat → Int32) → (Nat → Int32) → (Nat → Int32) → (Nat → Int32) → (Nat → Int32) → (Nat → Int32) → (Nat → Int32) → (Nat → Int32) → (Nat → Int32) → (Nat → Int32) → (Nat → Int32) → (Nat → Int32) → (Nat → Int32) → (Nat → Int32) → (Nat → Int64) → (Nat → Int64) → (Nat → Int64) → (Nat → Int64) → (Nat → Int32) → (Nat → Int64) → (Nat → Int32) → (Nat → Int32) → (Nat → Int64) → (Nat → Int32) → (Nat → Int32) → (Nat → Int32) → (Nat → Int32) → (Nat → Int32) → (Nat → Int32) → (Nat → Int32) → (Nat → Int32) → (Nat → Int32) → (Nat → Int32) → (Nat → Int32) → (Nat → Int32) → Prop}
theorem yq_106 {x1 x2 x3 x4 x5 x6 a : Int32} {t0 s : Nat} (ht0 : t0 ≤ 150) (e1 : x1 = nI t0) (hs : s < 40) (es : b_stack t0 = nI s)
    (H : (x6 = 1 → (∀ v, v = b_worth 1 → wY_parse_185 post J54 x1 x2 x3 x4 x5 x6 g_productions g_start g_sets g_states g_conflicts g_ready g_length g_tokens g_stuck g_scanned v x3 b_term b_size b_skipped b_left b_right b_width b_op b_constant b_rank b_grouping b_bTerm b_bSize b_bSkipped b_bLeft b_bWidth b_bOp b_bConstant b_follow b_ends b_first b_last b_none b_set b_leads b_apart b_state b_to b_look b_begins b_nullable b_act b_built b_leadTo b_text b_fits b_token b_stack b_worth)) ∧ (¬ x6 = 1 → ((x6 ≤ 1 → wY_parse_185 post J54 x1 x2 x3 x4 x5 x6 g_productions g_start g_sets g_states g_conflicts g_ready g_length g_tokens g_stuck g_scanned g_value (twA (fun t => !(b_act (5 * s + t) == 0)) a 5) b_term b_size b_skipped b_left b_right b_width b_op b_constant b_rank b_grouping b_bTerm b_bSize b_bSkipped b_bLeft b_bWidth b_bOp b_bConstant b_follow b_ends b_first b_last b_none b_set b_leads b_apart b_state b_to b_look b_begins b_nullable b_act b_built b_leadTo b_text b_fits b_token b_stack b_worth) ∧ (¬ x6 ≤ 1 → wY_parse_185 post J54 x1 x2 x3 x4 x5 x6 g_productions g_start g_sets g_states g_conflicts g_ready g_length g_tokens g_stuck g_scanned g_value x2 b_term b_size b_skipped b_left b_right b_width b_op b_constant b_rank b_grouping b_bTerm b_bSize b_bSkipped b_bLeft b_bWidth b_bOp b_bConstant b_follow b_ends b_first b_last b_none b_set b_leads b_apart b_state b_to b_look b_begins b_nullable b_act b_built b_leadTo b_text b_fits b_token b_stack b_worth)))) :
    ∀ d t, t + d = 5 → wY_parse_106 post J54 x1 x2 x3 x4 x5 x6 g_productions g_start g_sets g_states g_conflicts g_ready g_length g_tokens g_stuck g_scanned g_value b_term b_size b_skipped b_left b_right b_width b_op b_constant b_rank b_grouping b_bTerm b_bSize b_bSkipped b_bLeft b_bWidth b_bOp b_bConstant b_follow b_ends b_first b_last b_none b_set b_leads b_apart b_state b_to b_look b_begins b_nullable b_act b_built b_leadTo b_text b_fits b_token b_stack b_worth (d + 1) (nI t) (twA (fun t => !(b_act (5 * s + t) == 0)) a t) := by
  subst e1
  intro d
  induction d with
  | zero =>
    intro t ht
    have : t = 5 := by omega
    subst this
    exact pk_le 5 5 (fun _ => H) (fun z => absurd z (by omega))
  | succ d ih =>
    intro t ht
    have ih' := ih (t + 1) (by omega)
    refine pk_le 5 t (fun z => absurd z (by omega)) (fun _ => ⟨vp_in_nI (by omega) (by omega), ?_⟩)
    rw [nI_clamp (show t0 < 2 ^ 31 by omega), es, show 5 * nI s + nI t = nI (5 * s + t) from by rw [show (5 : Int32) = nI 5 from rfl, pk_mul, nI_add], nI_clamp (by omega)]
    refine ⟨vp_in_nI (by omega) (by omega), ?_⟩
    by_cases c : b_act (5 * s + t) = 0
    · refine br_t c (nm_r (nI_1 t) ?_)
      rw [twA] at ih'
      simp only [c, beq_self_eq_true, Bool.not_true] at ih'
      exact ih'
    · refine br_f c (nm_e (nm_r (nI_1 t) ?_))
      rw [twA] at ih'
      simp only [beq_eq_false_iff_ne.mpr c, Bool.not_false, if_true] at ih'
      exact ih'
end
section
variable {f_productionCount f_textLength f_anythingBuilt f_tokenCount f_parseValue f_parsePlace : Int32} {a_ruleTerms a_ruleLengths a_skips a_grammar a_ranks a_groupings a_text a_heads a_tails a_empties a_placeLetters a_followers a_ruleEnds : Nat → Int32} {a_sets : Nat → Int64} {a_steps a_classes a_finerClasses : Nat → Int32} {a_states : Nat → Int64} {a_moves a_begins a_lookaheads a_builtCounts a_builtSteps a_builtMatches a_builtSkips a_builtGrammar a_builtMoves a_builtActions a_tokenRules a_tokenBegins a_tokenEnds a_stackStates a_stackValues : Nat → Int32} {g_productions : Int32} {g_start : Int64} {g_sets g_states g_conflicts g_ready g_length g_tokens g_stuck g_scanned g_value g_place : Int32} {b_term b_size b_skipped b_left b_right b_width b_op b_constant b_rank b_grouping b_bTerm b_bSize b_bSkipped b_bLeft b_bWidth b_bOp b_bConstant : Nat → Int32} {b_follow b_ends b_first b_last : Nat → Int64} {b_none : Nat → Int32} {b_set : Nat → Int64} {b_leads b_apart : Nat → Int32} {b_state : Nat → Int64} {b_to b_look b_begins b_nullable b_act b_built b_leadTo b_text b_fits b_token b_stack b_worth : Nat → Int32}
theorem rp_ {ns cnt : Nat} {S : Nat → Nat → Bool} {L W : Nat → Nat} (hns : ns ≤ 40) (hWL : ∀ p, W p ≤ 3 ∧ L p ≤ 13)
    (hG : ∀ p, p < 8 → a_builtGrammar (7 * p) = nI (L p) ∧ a_builtGrammar (7 * p + 1) = nI (W p) ∧ b_bLeft p = nI (L p) ∧ b_bWidth p = nI (W p) ∧ a_builtGrammar (7 * p + 5) = b_bOp p ∧ a_builtGrammar (7 * p + 6) = b_bConstant p ∧ ∃ o, o < 4 ∧ b_bOp p = nI o)
    (hM : ∀ s x, s < ns → sym x → (a_builtMoves (13 * s + x) = -1 ∧ b_leadTo (7 * s + col x) = -1) ∨ ∃ t, 0 < t ∧ t < ns ∧ a_builtMoves (13 * s + x) = nI t ∧ b_leadTo (7 * s + col x) = nI t ∧ ∀ j, S t j = true → j % 4 ≠ 0 → S s (j - 1) = true)
    (hC : ∀ s p, s < ns → p < 8 → S s (4 * p) = true → (10 ≤ L p ∧ L p < 13) ∧ ¬ a_builtMoves (13 * s + L p) = -1)
    (h0 : ∀ j, S 0 j = true → j % 4 = 0) (h32 : ∀ s, s < ns → S s 32 = true → s = 0)
    (hA : ∀ s t, s < ns → t < 5 → ac_ok S W a_builtMoves s t (a_builtActions (5 * s + t)) (b_act (5 * s + t)))
    (hcnt : cnt ≤ 20) (hT : ∀ k, k < cnt → ∃ r i j, r < 4 ∧ i ≤ j ∧ j ≤ 20 ∧ a_tokenRules k = nI r ∧ a_tokenBegins k = nI i ∧ a_tokenEnds k = nI j) :
    ∀ d, ∀ top k red (sk : Nat → Nat) (ss st sv wo : Nat → Int32) (pl0 : Int32), d ≤ 150 → top + d ≤ 150 → k ≤ cnt → sk_ok ns a_builtMoves top sk ss st sv wo →
    ∃ (ans val pl : Int32) (ss' sv' : Nat → Int32),
      (∀ post : Int32 → SX → Prop, post ans (f_productionCount, f_textLength, f_anythingBuilt, nI cnt, val, pl, a_ruleTerms, a_ruleLengths, a_skips, a_grammar, a_ranks, a_groupings, a_text, a_heads, a_tails, a_empties, a_placeLetters, a_followers, a_ruleEnds, a_sets, a_steps, a_classes, a_finerClasses, a_states, a_moves, a_begins, a_lookaheads, a_builtCounts, a_builtSteps, a_builtMatches, a_builtSkips, a_builtGrammar, a_builtMoves, a_builtActions, a_tokenRules, a_tokenBegins, a_tokenEnds, ss', sv') → wX_runParser_16 post (d + 2) (nI top) (nI k) (nI red) (nI (150 - d)) f_productionCount f_textLength f_anythingBuilt (nI cnt) 0 f_parsePlace a_ruleTerms a_ruleLengths a_skips a_grammar a_ranks a_groupings a_text a_heads a_tails a_empties a_placeLetters a_followers a_ruleEnds a_sets a_steps a_classes a_finerClasses a_states a_moves a_begins a_lookaheads a_builtCounts a_builtSteps a_builtMatches a_builtSkips a_builtGrammar a_builtMoves a_builtActions a_tokenRules a_tokenBegins a_tokenEnds ss sv) ∧
      (∀ (su sd : Int32) (f tk : Nat → Int32), (∀ k, k < cnt → tk (3 * k) = a_tokenRules k ∧ tk (3 * k + 1) = a_tokenBegins k ∧ tk (3 * k + 2) = a_tokenEnds k) → ∃ (st' wo' : Nat → Int32), ∀ post : Int32 → SY → Prop, post ans (g_productions, g_start, g_sets, g_states, g_conflicts, g_ready, g_length, nI cnt, su, sd, val, pl, b_term, b_size, b_skipped, b_left, b_right, b_width, b_op, b_constant, b_rank, b_grouping, b_bTerm, b_bSize, b_bSkipped, b_bLeft, b_bWidth, b_bOp, b_bConstant, b_follow, b_ends, b_first, b_last, b_none, b_set, b_leads, b_apart, b_state, b_to, b_look, b_begins, b_nullable, b_act, b_built, b_leadTo, a_text, f, tk, st', wo') → wY_parse_54 post g_productions g_start g_sets g_states g_conflicts g_ready g_length (nI cnt) su sd (d + 2) (nI top) (nI k) (nI red) (-1) (nI (150 - d)) 0 pl0 b_term b_size b_skipped b_left b_right b_width b_op b_constant b_rank b_grouping b_bTerm b_bSize b_bSkipped b_bLeft b_bWidth b_bOp b_bConstant b_follow b_ends b_first b_last b_none b_set b_leads b_apart b_state b_to b_look b_begins b_nullable b_act b_built b_leadTo a_text f tk st wo) := by
  refine nat_ind ?_
  intro d ih top k red sk ss st sv wo pl0 hd htop hk hsk
  obtain ⟨s0, s1, s2, s3⟩ := id hsk
  obtain ⟨hs, ess, est⟩ := s1 top (Nat.le_refl _)
  -- the terminal that is looked at
  obtain ⟨t, ht5, htk⟩ : ∃ t, t < 5 ∧ ((k < cnt ∧ t < 4 ∧ a_tokenRules k = nI t) ∨ (k = cnt ∧ t = 4)) := by
    rcases Nat.lt_or_ge k cnt with c | c
    · obtain ⟨r, i, j, hr, -, -, e1, -⟩ := hT k c
      exact ⟨r, by omega, Or.inl ⟨c, hr, e1⟩⟩
    · exact ⟨4, by omega, Or.inr ⟨by omega, rfl⟩⟩
  have ct : (nI top).toNatClampNeg = top := nI_clamp (by omega)
  have ck : (nI k).toNatClampNeg = k := nI_clamp (by omega)
  have X42 : ∀ post : Int32 → SX → Prop, wX_runParser_42 post (wX_runParser_16 post (d + 1)) (nI top) (nI k) (nI red) (nI (150 - d)) (nI t) f_productionCount f_textLength f_anythingBuilt (nI cnt) 0 f_parsePlace a_ruleTerms a_ruleLengths a_skips a_grammar a_ranks a_groupings a_text a_heads a_tails a_empties a_placeLetters a_followers a_ruleEnds a_sets a_steps a_classes a_finerClasses a_states a_moves a_begins a_lookaheads a_builtCounts a_builtSteps a_builtMatches a_builtSkips a_builtGrammar a_builtMoves a_builtActions a_tokenRules a_tokenBegins a_tokenEnds ss sv → wX_runParser_16 post (d + 2) (nI top) (nI k) (nI red) (nI (150 - d)) f_productionCount f_textLength f_anythingBuilt (nI cnt) 0 f_parsePlace a_ruleTerms a_ruleLengths a_skips a_grammar a_ranks a_groupings a_text a_heads a_tails a_empties a_placeLetters a_followers a_ruleEnds a_sets a_steps a_classes a_finerClasses a_states a_moves a_begins a_lookaheads a_builtCounts a_builtSteps a_builtMatches a_builtSkips a_builtGrammar a_builtMoves a_builtActions a_tokenRules a_tokenBegins a_tokenEnds ss sv := by
    intro post H
    refine br_f (nI_nlt (a := 150) (by omega) (by omega)) ?_
    rcases htk with ⟨c, -, e1⟩ | ⟨c, e4⟩
    · refine br_f (nI_ge c (by omega)) ⟨vp_in_nI (by omega) (by omega), ?_⟩
      rw [ck, e1]; exact H
    · subst e4; exact br_t (nI_le (by omega) (by omega)) H
  have Y91 : ∀ (su sd : Int32) (f tk : Nat → Int32), (∀ k, k < cnt → tk (3 * k) = a_tokenRules k ∧ tk (3 * k + 1) = a_tokenBegins k ∧ tk (3 * k + 2) = a_tokenEnds k) → ∀ post : Int32 → SY → Prop, wY_parse_91 post (wY_parse_54 post g_productions g_start g_sets g_states g_conflicts g_ready g_length (nI cnt) su sd (d + 1)) (nI top) (nI k) (nI red) (-1) (nI (150 - d)) (nI t) (5 * nI (sk top)) g_productions g_start g_sets g_states g_conflicts g_ready g_length (nI cnt) su sd 0 pl0 b_term b_size b_skipped b_left b_right b_width b_op b_constant b_rank b_grouping b_bTerm b_bSize b_bSkipped b_bLeft b_bWidth b_bOp b_bConstant b_follow b_ends b_first b_last b_none b_set b_leads b_apart b_state b_to b_look b_begins b_nullable b_act b_built b_leadTo a_text f tk st wo → wY_parse_54 post g_productions g_start g_sets g_states g_conflicts g_ready g_length (nI cnt) su sd (d + 2) (nI top) (nI k) (nI red) (-1) (nI (150 - d)) 0 pl0 b_term b_size b_skipped b_left b_right b_width b_op b_constant b_rank b_grouping b_bTerm b_bSize b_bSkipped b_bLeft b_bWidth b_bOp b_bConstant b_follow b_ends b_first b_last b_none b_set b_leads b_apart b_state b_to b_look b_begins b_nullable b_act b_built b_leadTo a_text f tk st wo := by
    intro su sd f tk htk2 post H
    refine br_f (by decide) ⟨vp_in_nI (by omega) (by omega), ?_⟩
    rw [ct, est]
    rcases htk with ⟨c, -, e2⟩ | ⟨c, e4⟩
    · refine br_f (nI_ge c (by omega)) ?_
      rw [show 3 * nI k = nI (3 * k) from by rw [show (3 : Int32) = nI 3 from rfl, pk_mul], nI_clamp (show 3 * k < 2 ^ 31 by omega), (htk2 k c).1, e2]
      exact ⟨vp_in_nI (by omega) (by omega), H⟩
    · subst e4; exact br_t (nI_le (by omega) (by omega)) H
  have hac := hA (sk top) t hs ht5
  have xi : nI (sk top) * 5 + nI t = nI (5 * sk top + t) := by rw [show (5 : Int32) = nI 5 from rfl, pk_mul, nI_add]; congr 1; omega
  have yi : 5 * nI (sk top) + nI t = nI (5 * sk top + t) := by rw [show (5 : Int32) = nI 5 from rfl, pk_mul, nI_add]
  have it : vp_in (nI top) 151 := vp_in_nI (by omega) (by omega)
  -- the walk up to the action, on both sides
  have X7 : ∀ (post : Int32 → SX → Prop) (P : Int32 → Prop), P (a_builtActions (5 * sk top + t)) → (vp_in (nI top) 151 ∧ (vp_in (ss (nI top).toNatClampNeg * 5 + nI t) 200 ∧ ∀ x6_7, x6_7 = a_builtActions (ss (nI top).toNatClampNeg * 5 + nI t).toNatClampNeg → P x6_7)) := by
    intro post P H
    rw [ct, ess, xi, nI_clamp (by omega)]
    exact ⟨it, vp_in_nI (by omega) (by omega), nm_e H⟩
  have Y7 : ∀ (su sd : Int32) (f tk : Nat → Int32) (post : Int32 → SY → Prop) (y : Int32), b_act (5 * sk top + t) = y →
      ((y = 1 → (∀ v, v = wo 1 → wY_parse_185 post (wY_parse_54 post g_productions g_start g_sets g_states g_conflicts g_ready g_length (nI cnt) su sd (d + 1)) (nI top) (nI k) (nI red) (-1) (nI (150 - d)) y g_productions g_start g_sets g_states g_conflicts g_ready g_length (nI cnt) su sd v (nI red) b_term b_size b_skipped b_left b_right b_width b_op b_constant b_rank b_grouping b_bTerm b_bSize b_bSkipped b_bLeft b_bWidth b_bOp b_bConstant b_follow b_ends b_first b_last b_none b_set b_leads b_apart b_state b_to b_look b_begins b_nullable b_act b_built b_leadTo a_text f tk st wo)) ∧ (¬ y = 1 → ((y ≤ 1 → wY_parse_185 post (wY_parse_54 post g_productions g_start g_sets g_states g_conflicts g_ready g_length (nI cnt) su sd (d + 1)) (nI top) (nI k) (nI red) (-1) (nI (150 - d)) y g_productions g_start g_sets g_states g_conflicts g_ready g_length (nI cnt) su sd 0 (twA (fun t => !(b_act (5 * sk top + t) == 0)) (64 * nI k) 5) b_term b_size b_skipped b_left b_right b_width b_op b_constant b_rank b_grouping b_bTerm b_bSize b_bSkipped b_bLeft b_bWidth b_bOp b_bConstant b_follow b_ends b_first b_last b_none b_set b_leads b_apart b_state b_to b_look b_begins b_nullable b_act b_built b_leadTo a_text f tk st wo) ∧ (¬ y ≤ 1 → wY_parse_185 post (wY_parse_54 post g_productions g_start g_sets g_states g_conflicts g_ready g_length (nI cnt) su sd (d + 1)) (nI top) (nI k) (nI red) (-1) (nI (150 - d)) y g_productions g_start g_sets g_states g_conflicts g_ready g_length (nI cnt) su sd 0 (nI k) b_term b_size b_skipped b_left b_right b_width b_op b_constant b_rank b_grouping b_bTerm b_bSize b_bSkipped b_bLeft b_bWidth b_bOp b_bConstant b_follow b_ends b_first b_last b_none b_set b_leads b_apart b_state b_to b_look b_begins b_nullable b_act b_built b_leadTo a_text f tk st wo)))) →
      wY_parse_91 post (wY_parse_54 post g_productions g_start g_sets g_states g_conflicts g_ready g_length (nI cnt) su sd (d + 1)) (nI top) (nI k) (nI red) (-1) (nI (150 - d)) (nI t) (5 * nI (sk top)) g_productions g_start g_sets g_states g_conflicts g_ready g_length (nI cnt) su sd 0 pl0 b_term b_size b_skipped b_left b_right b_width b_op b_constant b_rank b_grouping b_bTerm b_bSize b_bSkipped b_bLeft b_bWidth b_bOp b_bConstant b_follow b_ends b_first b_last b_none b_set b_leads b_apart b_state b_to b_look b_begins b_nullable b_act b_built b_leadTo a_text f tk st wo := by
    intro su sd f tk post y ey H
    unfold wY_parse_91
    rw [yi, nI_clamp (by omega), ey]
    exact ⟨vp_in_nI (by omega) (by omega), nm_e (nm_e ⟨6, yq_106 (t0 := top) (by omega) rfl (by omega) est H 5 0 (by omega)⟩)⟩
  rcases hac with ⟨ea, ey⟩ | ⟨ea, ey, hS⟩ | ⟨ea, ht4, q, hq, emv, ey⟩ | ⟨p, hp, ea, ey, hS⟩
  · -- an error
    refine ⟨5, 0, 64 * nI k + twO (fun t => !(a_builtActions (5 * sk top + t) == -1)) 5, ss, sv, fun post H => X42 post ?_, fun su sd f tk htk2 => ⟨st, wo, fun post H => Y91 su sd f tk htk2 post (Y7 su sd f tk post 0 ey ?_)⟩⟩
    · unfold wX_runParser_42
      rw [ct, ess, xi, nI_clamp (show 5 * sk top + t < 2 ^ 31 by omega), ea]
      refine ⟨it, vp_in_nI (by omega) (by omega), nm_e (br_t rfl ⟨it, xt_ (by omega) (nm_e H)⟩)⟩
    · refine br_f (by decide) (br_t (by decide) ?_)
      refine br_f (by decide) (br_t rfl (nm_e (br_t (by decide) ?_)))
      rw [tw_e, ← tw_cg (fun t ht => ac_i (hA (sk top) t hs ht))]
      exact H
  · -- accepted: one value on the stack
    have ht1 : top = 1 := by
      rcases Nat.eq_zero_or_pos top with c | c
      · rw [c, s0] at hS
        exact absurd (h0 33 hS) (by decide)
      · obtain ⟨x, hx, ex⟩ := s2 (top - 1) (by omega)
        rw [show top - 1 + 1 = top by omega] at ex
        rcases hM (sk (top - 1)) x (s1 (top - 1) (by omega)).1 hx with ⟨e1, -⟩ | ⟨t', ht0, ht', e1, -, e3⟩
        · rw [e1] at ex; exact absurd ex.symm (zn_ne1 (by omega))
        · have et : t' = sk top := zn_inj (by omega) (by omega) (e1.symm.trans ex)
          subst et
          have h33 := h32 _ (s1 (top - 1) (by omega)).1 (e3 33 hS (by decide))
          rcases Nat.eq_zero_or_pos (top - 1) with c1 | c1
          · omega
          · obtain ⟨x', hx', ex'⟩ := s2 (top - 2) (by omega)
            rw [show top - 2 + 1 = top - 1 by omega, h33] at ex'
            rcases hM (sk (top - 2)) x' (s1 (top - 2) (by omega)).1 hx' with ⟨e1', -⟩ | ⟨t'', ht0', ht'', e1', -, -⟩
            · rw [e1'] at ex'; exact absurd ex'.symm (zn_ne1 (by omega))
            · have := zn_inj (by omega) (by omega) (e1'.symm.trans ex')
              omega
    subst ht1
    refine ⟨0, sv 1, nI red, ss, sv, fun post H => X42 post ?_, fun su sd f tk htk2 => ⟨st, wo, fun post H => Y91 su sd f tk htk2 post (Y7 su sd f tk post 1 ey ?_)⟩⟩
    · unfold wX_runParser_42
      rw [ct, ess, xi, nI_clamp (show 5 * sk 1 + t < 2 ^ 31 by omega), ea]
      exact ⟨it, vp_in_nI (by omega) (by omega), nm_e (br_f (by decide) (br_t rfl ⟨it, nm_e H⟩))⟩
    · refine br_t rfl (nm_e (br_f (by decide) (br_f (by decide) (nm_e (br_t (by decide) ?_)))))
      rw [← s3 1 (by omega) (by omega)]
      exact H
  · -- shift
    have hk4 : k < cnt := by rcases htk with ⟨c, -⟩ | ⟨-, c⟩ <;> omega
    have y1 : ¬ nI (2 + q) = 1 := by rw [show (1 : Int32) = nI 1 from rfl, nI_eq (by omega) (by omega)]; omega
    have y2 : ¬ nI (2 + q) ≤ 1 := nI_ge (a := 1) (by omega) (by omega)
    cases d with
    | zero =>
      refine ⟨6, 0, nI k, ss, sv, fun post H => X42 post ?_, fun su sd f tk htk2 => ⟨st, wo, fun post H => Y91 su sd f tk htk2 post (Y7 su sd f tk post _ ey ?_)⟩⟩
      · unfold wX_runParser_42
        rw [ct, ess, xi, nI_clamp (show 5 * sk top + t < 2 ^ 31 by omega), ea]
        exact ⟨it, vp_in_nI (by omega) (by omega), nm_e (br_f (by decide) (br_f (by decide) (br_t rfl H)))⟩
      · exact br_f y1 (br_f y2 (br_t (nI_le (a := 2) (by omega) (by omega)) (br_t rfl (nm_e (br_t (by decide) H)))))
    | succ d =>
      obtain ⟨r, i, j, hr, hij, hj, t1, t2, t3⟩ := hT k hk4
      have hq' : q < ns := by
        rcases hM (sk top) t hs (Or.inl ht4) with ⟨e1, -⟩ | ⟨t', -, ht', e1, -⟩
        · rw [e1] at emv; exact absurd emv.symm (zn_ne1 (by omega))
        · have := zn_inj (by omega) (by omega) (e1.symm.trans emv)
          omega
      have n150 : ¬ nI (150 - (d + 1)) = 150 := by rw [show (150 : Int32) = nI 150 from rfl, nI_eq (by omega) (by omega)]; omega
      have e150 : nI (150 - (d + 1)) + 1 = nI (150 - d) := by rw [nI_1]; congr 1; omega
      obtain ⟨ans, val, pl, ss', sv', HX, HY⟩ := ih d rfl (top + 1) (k + 1) red _ _ _ _ _ (nI k) (by omega) (by omega) (by omega) (sk_push (w := nuF a_text (j - i) i 0) hsk (Nat.le_refl _) (Or.inl ht4) hq' emv)
      refine ⟨ans, val, pl, ss', sv', fun post H => X42 post ?_, fun su sd f tk htk2 => ?_⟩
      · unfold wX_runParser_42
        rw [ct, ess, xi, nI_clamp (show 5 * sk top + t < 2 ^ 31 by omega), ea]
        refine ⟨it, vp_in_nI (by omega) (by omega), nm_e (br_f (by decide) (br_f (by decide) (br_f n150 (br_t rfl (xn_ (by omega) hij hj t2 t3 ?_)))))⟩
        unfold wpX_push
        dsimp only
        rw [ct, ess, show nI (sk top) * 13 + nI t = nI (13 * sk top + t) from by rw [show (13 : Int32) = nI 13 from rfl, pk_mul, nI_add]; congr 1; omega, nI_clamp (show 13 * sk top + t < 2 ^ 31 by omega), emv, nI_1 top, nI_clamp (show top + 1 < 2 ^ 31 by omega)]
        exact ⟨it, vp_in_nI (by omega) (by omega), vp_in_nI (by omega) (by omega), nm_e ⟨vp_in_nI (by omega) (by omega), nm_e (nm_r (nI_1 k) (nm_r e150 (HX post H)))⟩⟩
      · obtain ⟨st', wo', HY⟩ := HY su sd f tk htk2
        refine ⟨st', wo', fun post H => Y91 su sd f tk htk2 post (Y7 su sd f tk post _ ey ?_)⟩
        refine br_f y1 (br_f y2 (br_t (nI_le (a := 2) (by omega) (by omega)) (br_f n150 (br_f (nI_ge (b := 100) (by omega) (by omega)) (nm_r (nI_1 top) ?_)))))
        rw [nI_clamp (show top + 1 < 2 ^ 31 by omega), show nI (2 + q) - 2 = nI q from by rw [show (2 : Int32) = nI 2 from rfl, pk_sub (by omega)]; congr 1; omega]
        refine ⟨vp_in_nI (by omega) (by omega), nm_e (nm_r (nI_1 k) (yn_ (by omega) hij hj ((htk2 k hk4).2.1.trans t2) ((htk2 k hk4).2.2.trans t3) ⟨vp_in_nI (by omega) (by omega), nm_e (nm_r e150 (HY post H))⟩))⟩
  · -- reduce
    obtain ⟨g1, g2, g3, g4, g5, g6, o, ho, g7⟩ := hG p hp
    have hw3 := (hWL p).1
    have y1 : ¬ nI (100 + p) = 1 := by rw [show (1 : Int32) = nI 1 from rfl, nI_eq (by omega) (by omega)]; omega
    have y2 : ¬ nI (100 + p) ≤ 1 := nI_ge (a := 1) (by omega) (by omega)
    have a1 : ¬ nI p = -1 := zn_ne1 (by omega)
    have a8 : ¬ nI p = 8 := by rw [show (8 : Int32) = nI 8 from rfl, nI_eq (by omega) (by omega)]; omega
    have a9 : ¬ nI p = 9 := by rw [show (9 : Int32) = nI 9 from rfl, nI_eq (by omega) (by omega)]; omega
    -- as many states as the production is wide
    have back : ∀ w, w ≤ W p → w ≤ top ∧ S (sk (top - w)) (4 * p + (W p - w)) = true := by
      intro w
      induction w with
      | zero => intro _; exact ⟨by omega, hS⟩
      | succ w ihw =>
        intro hw
        obtain ⟨b1, b2⟩ := ihw (by omega)
        have hne : (4 * p + (W p - w)) % 4 ≠ 0 := by omega
        have hlt : w < top := by
          rcases Nat.lt_or_ge w top with c | c
          · exact c
          · have : top - w = 0 := by omega
            rw [this, s0] at b2
            exact absurd (h0 _ b2) hne
        refine ⟨hlt, ?_⟩
        obtain ⟨x, hx, ex⟩ := s2 (top - (w + 1)) (by omega)
        rw [show top - (w + 1) + 1 = top - w by omega] at ex
        have hs1 := (s1 (top - w) (by omega)).1
        rcases hM (sk (top - (w + 1))) x (s1 (top - (w + 1)) (by omega)).1 hx with ⟨e1, -⟩ | ⟨t', ht0, ht', e1, -, e3⟩
        · rw [e1] at ex; exact absurd ex.symm (zn_ne1 (by omega))
        · have et : t' = sk (top - w) := zn_inj (by omega) (by omega) (e1.symm.trans ex)
          rw [et] at e3
          have := e3 _ b2 hne
          rw [show 4 * p + (W p - w) - 1 = 4 * p + (W p - (w + 1)) by omega] at this
          exact this
    obtain ⟨hWt, hSu⟩ := back (W p) (Nat.le_refl _)
    rw [Nat.sub_self, Nat.add_zero] at hSu
    obtain ⟨hsu, essu, estu⟩ := s1 (top - W p) (by omega)
    obtain ⟨hL, hmv⟩ := hC _ p hsu hp hSu
    have hLs : sym (L p) := Or.inr hL
    rcases hM (sk (top - W p)) (L p) hsu hLs with ⟨e1, -⟩ | ⟨t', ht0, ht', emv, elt, -⟩
    · exact absurd e1 hmv
    cases d with
    | zero =>
      refine ⟨6, 0, nI k, ss, sv, fun post H => X42 post ?_, fun su sd f tk htk2 => ⟨st, wo, fun post H => Y91 su sd f tk htk2 post (Y7 su sd f tk post _ ey ?_)⟩⟩
      · unfold wX_runParser_42
        rw [ct, ess, xi, nI_clamp (show 5 * sk top + t < 2 ^ 31 by omega), ea]
        exact ⟨it, vp_in_nI (by omega) (by omega), nm_e (br_f a1 (br_f a8 (br_t rfl H)))⟩
      · exact br_f y1 (br_f y2 (br_t (nI_le (a := 2) (by omega) (by omega)) (br_t rfl (nm_e (br_t (by decide) H)))))
    | succ d =>
      have n150 : ¬ nI (150 - (d + 1)) = 150 := by rw [show (150 : Int32) = nI 150 from rfl, nI_eq (by omega) (by omega)]; omega
      have e150 : nI (150 - (d + 1)) + 1 = nI (150 - d) := by rw [nI_1]; congr 1; omega
      have ev : vY wo (top - W p + 1) o (W p) (b_bConstant p) = vX sv (top - W p + 1) o (W p) (b_bConstant p) := by
        rw [v_eq _ _ _ _ _ hw3 ho]
        exact (v_cg _ _ _ _ _ _ hw3 (fun i hi => s3 _ (by omega) (by omega))).symm
      obtain ⟨ans, val, pl, ss', sv', HX, HY⟩ := ih d rfl (top - W p + 1) k (red + 1) _ _ _ _ _ (nI k) (by omega) (by omega) hk (sk_push (w := vX sv (top - W p + 1) o (W p) (b_bConstant p)) hsk (show top - W p ≤ top by omega) hLs ht' emv)
      refine ⟨ans, val, pl, ss', sv', fun post H => X42 post ?_, fun su sd f tk htk2 => ?_⟩
      · unfold wX_runParser_42
        rw [ct, ess, xi, nI_clamp (show 5 * sk top + t < 2 ^ 31 by omega), ea]
        refine ⟨it, vp_in_nI (by omega) (by omega), nm_e (br_f a1 (br_f a8 (br_f n150 (br_f a9 ?_))))⟩
        unfold wpX_reduceBy
        dsimp only
        rw [show nI p * 7 = nI (7 * p) from by rw [show (7 : Int32) = nI 7 from rfl, pk_mul]; congr 1; omega]
        refine nm_e ?_
        rw [show nI (7 * p) + 1 = nI (7 * p + 1) from nI_1 _, show nI (7 * p) + 0 = nI (7 * p) from nI_add _ 0, nI_clamp (show 7 * p + 1 < 2 ^ 31 by omega), nI_clamp (show 7 * p < 2 ^ 31 by omega), g2, g1]
        refine ⟨vp_in_nI (by omega) (by omega), nm_r (pk_sub hWt) ?_⟩
        rw [nI_1 (top - W p)]
        refine xv_ hp (by omega) hw3 (by omega) ho g2 (g5.trans g7) g6 ⟨vp_in_nI (by omega) (by omega), ?_⟩
        unfold wpX_push
        dsimp only
        rw [nI_clamp (show top - W p < 2 ^ 31 by omega), essu, show nI (sk (top - W p)) * 13 + nI (L p) = nI (13 * sk (top - W p) + L p) from by rw [show (13 : Int32) = nI 13 from rfl, pk_mul, nI_add]; congr 1; omega, nI_clamp (show 13 * sk (top - W p) + L p < 2 ^ 31 by omega), emv, nI_1 (top - W p), nI_clamp (show top - W p + 1 < 2 ^ 31 by omega)]
        exact ⟨vp_in_nI (by omega) (by omega), vp_in_nI (by omega) (by omega), vp_in_nI (by omega) (by omega), nm_e ⟨vp_in_nI (by omega) (by omega), nm_e (nm_r (nI_1 red) (nm_r e150 (HX post H)))⟩⟩
      · obtain ⟨st', wo', HY⟩ := HY su sd f tk htk2
        refine ⟨st', wo', fun post H => Y91 su sd f tk htk2 post (Y7 su sd f tk post _ ey ?_)⟩
        refine br_f y1 (br_f y2 (br_t (nI_le (a := 2) (by omega) (by omega)) (br_f n150 (br_t (nI_le (a := 100) (by omega) (by omega)) (nm_r (e' := nI p) (by rw [show (100 : Int32) = nI 100 from rfl, pk_sub (by omega)]; congr 1; omega) ?_)))))
        rw [nI_clamp (show p < 2 ^ 31 by omega), g4, g3]
        refine ⟨vp_in_nI (by omega) (by omega), nm_r (pk_sub hWt) (yr_ hp hw3 (by omega) ho g4 g7 rfl ?_)⟩
        rw [nI_1 (top - W p), nI_clamp (show top - W p + 1 < 2 ^ 31 by omega), nI_clamp (show top - W p < 2 ^ 31 by omega), estu, ev]
        refine ⟨vp_in_nI (by omega) (by omega), nm_e ⟨vp_in_nI (by omega) (by omega), vp_in_nI (by omega) (by omega), ycol hLs ?_⟩⟩
        have hcl : col (L p) < 7 := by unfold col; split <;> omega
        rw [show 7 * nI (sk (top - W p)) + nI (col (L p)) = nI (7 * sk (top - W p) + col (L p)) from by rw [show (7 : Int32) = nI 7 from rfl, pk_mul, nI_add], nI_clamp (show 7 * sk (top - W p) + col (L p) < 2 ^ 31 by omega), elt]
        exact ⟨vp_in_nI (by omega) (by omega), vp_in_nI (by omega) (by omega), nm_e (nm_e (nm_r (nI_1 red) (nm_r e150 (HY post H))))⟩
end
