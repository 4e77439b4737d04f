/-! well formed rules; what is kept -/
theorem wf_st {d t : Nat} (h : tk t ≤ d) : nI d + (1 - nI (tk t)) = nI (d + 1 - tk t) := by
  have h2 := tk_2 t
  generalize tk t = k at h h2
  have : k = 0 ∨ k = 1 ∨ k = 2 := by omega
  rcases this with rfl | rfl | rfl
  · rw [show (1 : Int32) - nI 0 = 1 from by decide, nI_1]; rfl
  · rw [show (1 : Int32) - nI 1 = nI 0 from by decide, nI_add]; rfl
  · obtain ⟨e, rfl⟩ : ∃ e, d = e + 1 := ⟨d - 1, by omega⟩
    rw [show (1 : Int32) - nI 2 = -1 from by decide, pk_m1]; congr 1
section
variable {f_productionCount f_textLength f_anythingBuilt f_tokenCount f_parseValue f_parsePlace : Int32} {a_ruleTerms a_ruleLengths a_skips a_grammar a_ranks a_groupings a_text a_heads a_tails a_empties a_placeLetters a_followers a_ruleEnds : Nat → Int32} {a_sets : Nat → Int64} {a_steps a_classes a_finerClasses : Nat → Int32} {a_states : Nat → Int64} {a_moves a_begins a_lookaheads a_builtCounts a_builtSteps a_builtMatches a_builtSkips a_builtGrammar a_builtMoves a_builtActions a_tokenRules a_tokenBegins a_tokenEnds a_stackStates a_stackValues : Nat → Int32}
theorem xwl {post : Int32 → Prop} {r : Nat} (hr : r < 4) (hru : ru_ok a_ruleTerms a_ruleLengths) (h0 : 0 < nv a_ruleLengths r) (H1 : wf_ (nv a_ruleTerms) (8 * r) (nv a_ruleLengths r) → post 1) (H0 : ¬ wf_ (nv a_ruleTerms) (8 * r) (nv a_ruleLengths r) → post 0) : wpX_isWellFormed post (f_productionCount, f_textLength, f_anythingBuilt, f_tokenCount, f_parseValue, f_parsePlace, a_ruleTerms, a_ruleLengths, a_skips, a_grammar, a_ranks, a_groupings, a_text, a_heads, a_tails, a_empties, a_placeLetters, a_followers, a_ruleEnds, a_sets, a_steps, a_classes, a_finerClasses, a_states, a_moves, a_begins, a_lookaheads, a_builtCounts, a_builtSteps, a_builtMatches, a_builtSkips, a_builtGrammar, a_builtMoves, a_builtActions, a_tokenRules, a_tokenBegins, a_tokenEnds, a_stackStates, a_stackValues) (nI r) := by
  obtain ⟨z, hz, ez⟩ := hru.2 r
  have ezn : nv a_ruleLengths r = z := by unfold nv; rw [ez]; exact nI_clamp (by omega)
  rw [ezn] at H1 H0 h0
  have c1 : (nI r).toNatClampNeg = r := nI_clamp (by omega)
  have ir : vp_in (nI r) 4 := vp_in_nI hr (by omega)
  have loop : ∀ d k, k + d = z → (∀ j, j < k → tk (nv a_ruleTerms (8 * r + j)) ≤ dp (nv a_ruleTerms) (8 * r) j) → wX_isWellFormed_4 post (nI r) f_productionCount f_textLength f_anythingBuilt f_tokenCount f_parseValue f_parsePlace a_ruleTerms a_ruleLengths a_skips a_grammar a_ranks a_groupings a_text a_heads a_tails a_empties a_placeLetters a_followers a_ruleEnds a_sets a_steps a_classes a_finerClasses a_states a_moves a_begins a_lookaheads a_builtCounts a_builtSteps a_builtMatches a_builtSkips a_builtGrammar a_builtMoves a_builtActions a_tokenRules a_tokenBegins a_tokenEnds a_stackStates a_stackValues (d + 1) (nI (dp (nv a_ruleTerms) (8 * r) k)) (nI k) := by
    intro d
    induction d with
    | zero =>
      intro k hk h
      have : k = z := by omega
      subst this
      have hd := dp_le (tm := nv a_ruleTerms) (b := 8 * r) k
      have w : wX_isWellFormed_78 post (nI (dp (nv a_ruleTerms) (8 * r) k)) f_productionCount f_textLength f_anythingBuilt f_tokenCount f_parseValue f_parsePlace a_ruleTerms a_ruleLengths a_skips a_grammar a_ranks a_groupings a_text a_heads a_tails a_empties a_placeLetters a_followers a_ruleEnds a_sets a_steps a_classes a_finerClasses a_states a_moves a_begins a_lookaheads a_builtCounts a_builtSteps a_builtMatches a_builtSkips a_builtGrammar a_builtMoves a_builtActions a_tokenRules a_tokenBegins a_tokenEnds a_stackStates a_stackValues := pk_eq (dp (nv a_ruleTerms) (8 * r) k) 1 (fun e => H1 ⟨h, Or.inr e⟩) (fun e => H0 fun z => z.2.elim (fun y => by omega) e)
      refine pk_le 8 k (fun _ => w) (fun _ => ⟨ir, ?_⟩)
      rw [c1, ez]
      exact pk_le k k (fun _ => w) (fun z => absurd z (by omega))
    | succ d ih =>
      intro k hk h
      obtain ⟨t, ht, et⟩ := hru.1 (8 * r + k)
      have etn : nv a_ruleTerms (8 * r + k) = t := by unfold nv; rw [et]; exact nI_clamp (by omega)
      have hd := dp_le (tm := nv a_ruleTerms) (b := 8 * r) k
      have htk := tk_2 t
      have ih' := ih (k + 1) (by omega)
      have hdp : dp (nv a_ruleTerms) (8 * r) (k + 1) = dp (nv a_ruleTerms) (8 * r) k + 1 - tk t := by
        show _ + 1 - tk (nv a_ruleTerms (8 * r + k)) = _
        rw [etn]
      rw [hdp] at ih'
      have w55 : ∀ x : Int32, x = nI (tk t) → wX_isWellFormed_55 post (wX_isWellFormed_4 post (nI r) f_productionCount f_textLength f_anythingBuilt f_tokenCount f_parseValue f_parsePlace a_ruleTerms a_ruleLengths a_skips a_grammar a_ranks a_groupings a_text a_heads a_tails a_empties a_placeLetters a_followers a_ruleEnds a_sets a_steps a_classes a_finerClasses a_states a_moves a_begins a_lookaheads a_builtCounts a_builtSteps a_builtMatches a_builtSkips a_builtGrammar a_builtMoves a_builtActions a_tokenRules a_tokenBegins a_tokenEnds a_stackStates a_stackValues (d + 1)) (nI r) (nI (dp (nv a_ruleTerms) (8 * r) k)) (nI k) x f_productionCount f_textLength f_anythingBuilt f_tokenCount f_parseValue f_parsePlace a_ruleTerms a_ruleLengths a_skips a_grammar a_ranks a_groupings a_text a_heads a_tails a_empties a_placeLetters a_followers a_ruleEnds a_sets a_steps a_classes a_finerClasses a_states a_moves a_begins a_lookaheads a_builtCounts a_builtSteps a_builtMatches a_builtSkips a_builtGrammar a_builtMoves a_builtActions a_tokenRules a_tokenBegins a_tokenEnds a_stackStates a_stackValues := by
        intro x hx
        subst hx
        refine pk_le (tk t) (dp (nv a_ruleTerms) (8 * r) k) (fun c => nm_r (wf_st c) (nm_r (nI_1 k) (ih' (fun j hj => ?_)))) (fun c => H0 fun z => ?_)
        · by_cases e : j = k
          · subst e; rw [etn]; exact c
          · exact h j (by omega)
        · have := z.1 k (by omega)
          rw [etn] at this; omega
      have hcc := tk_c t
      refine pk_le 8 k (fun z => absurd z (by omega)) (fun _ => ⟨ir, ?_⟩)
      rw [c1, ez]
      refine pk_le z k (fun z => absurd z (by omega)) (fun _ => ?_)
      rw [show nI r * 8 + nI k = nI (8 * r + k) from by rw [show (8 : Int32) = nI 8 from rfl, pk_mul, nI_add]; congr 1; omega, nI_clamp (show 8 * r + k < 2 ^ 31 by omega), et]
      refine ⟨vp_in_nI (by omega) (by omega), nm_e (pk_lt 4 t (fun c => pk_lt 6 t (fun c2 => w55 _ ?_) (fun c2 => w55 _ ?_)) (fun c => w55 _ ?_))⟩
      · rw [hcc.2.2 (by omega)]; rfl
      · rw [hcc.2.1 (by omega)]; rfl
      · rw [hcc.1 (by omega)]; rfl
  exact ⟨z + 1, loop z 0 (by omega) (fun j hj => absurd hj (Nat.not_lt_zero _))⟩
theorem xfit {post : Int32 → Prop} (hru : ru_ok a_ruleTerms a_ruleLengths) (H1 : (∀ r, r < 4 → wf_ (nv a_ruleTerms) (8 * r) (nv a_ruleLengths r)) → post 1) (H0 : (¬ ∀ r, r < 4 → wf_ (nv a_ruleTerms) (8 * r) (nv a_ruleLengths r)) → post 0) : wpX_rulesAreFit post (f_productionCount, f_textLength, f_anythingBuilt, f_tokenCount, f_parseValue, f_parsePlace, a_ruleTerms, a_ruleLengths, a_skips, a_grammar, a_ranks, a_groupings, a_text, a_heads, a_tails, a_empties, a_placeLetters, a_followers, a_ruleEnds, a_sets, a_steps, a_classes, a_finerClasses, a_states, a_moves, a_begins, a_lookaheads, a_builtCounts, a_builtSteps, a_builtMatches, a_builtSkips, a_builtGrammar, a_builtMoves, a_builtActions, a_tokenRules, a_tokenBegins, a_tokenEnds, a_stackStates, a_stackValues) := by
  have loop : ∀ d r, r + d = 4 → (∀ q, q < r → wf_ (nv a_ruleTerms) (8 * q) (nv a_ruleLengths q)) → wX_rulesAreFit_2 post f_productionCount f_textLength f_anythingBuilt f_tokenCount f_parseValue f_parsePlace a_ruleTerms a_ruleLengths a_skips a_grammar a_ranks a_groupings a_text a_heads a_tails a_empties a_placeLetters a_followers a_ruleEnds a_sets a_steps a_classes a_finerClasses a_states a_moves a_begins a_lookaheads a_builtCounts a_builtSteps a_builtMatches a_builtSkips a_builtGrammar a_builtMoves a_builtActions a_tokenRules a_tokenBegins a_tokenEnds a_stackStates a_stackValues (d + 1) (nI r) := by
    intro d
    induction d with
    | zero =>
      intro r hr h
      have : r = 4 := by omega
      subst this
      exact pk_le 4 4 (fun _ => H1 h) (fun z => absurd z (by omega))
    | succ d ih =>
      intro r hr h
      obtain ⟨z, hz, ez⟩ := hru.2 r
      have ezn : nv a_ruleLengths r = z := by unfold nv; rw [ez]; exact nI_clamp (by omega)
      have next : wf_ (nv a_ruleTerms) (8 * r) (nv a_ruleLengths r) → wX_rulesAreFit_2 post f_productionCount f_textLength f_anythingBuilt f_tokenCount f_parseValue f_parsePlace a_ruleTerms a_ruleLengths a_skips a_grammar a_ranks a_groupings a_text a_heads a_tails a_empties a_placeLetters a_followers a_ruleEnds a_sets a_steps a_classes a_finerClasses a_states a_moves a_begins a_lookaheads a_builtCounts a_builtSteps a_builtMatches a_builtSkips a_builtGrammar a_builtMoves a_builtActions a_tokenRules a_tokenBegins a_tokenEnds a_stackStates a_stackValues (d + 1) (nI (r + 1)) := by
        intro hh
        refine ih (r + 1) (by omega) (fun q hq => ?_)
        by_cases e : q = r
        · subst e; exact hh
        · exact h q (by omega)
      refine pk_le 4 r (fun z => absurd z (by omega)) (fun _ => ⟨vp_in_nI (by omega) (by omega), ?_⟩)
      rw [nI_clamp (show r < 2 ^ 31 by omega), ez]
      refine pk_le z 0 (fun c => nm_r (nI_1 r) (next ?_)) (fun c => xwl (by omega) hru (by omega) (fun w => br_f (by decide) (nm_r (nI_1 r) (next w))) (fun w => br_t rfl (H0 fun y => w (y r (by omega)))))
      rw [ezn, show z = 0 by omega]
      exact ⟨fun j hj => absurd hj (Nat.not_lt_zero _), Or.inl rfl⟩
  exact ⟨5, loop 4 0 (by omega) (fun q hq => absurd hq (Nat.not_lt_zero _))⟩
theorem x_keepS {post : SX → Prop} {c : Nat} {en : Nat → Int64} {w : Nat → Int64} (hc : c ≤ 61) (hi : ∀ s, s < c → ∀ r, r < 4 → (((a_ruleEnds r).toInt64 &&& a_sets s) = 0 ↔ (w s &&& en r) = 0))
    (H : ∀ bm bst bsk : Nat → Int32, (∀ s, s < c → bm s = mtc en (w s) 4 0) → (∀ j, j < 244 → bst j = a_steps j) → (∀ r, r < 4 → bsk r = vp_nar .boolean (a_skips r)) → post (f_productionCount, f_textLength, f_anythingBuilt, f_tokenCount, f_parseValue, f_parsePlace, a_ruleTerms, a_ruleLengths, a_skips, a_grammar, a_ranks, a_groupings, a_text, a_heads, a_tails, a_empties, a_placeLetters, a_followers, a_ruleEnds, a_sets, a_steps, a_classes, a_finerClasses, a_states, a_moves, a_begins, a_lookaheads, a_builtCounts, bst, bm, bsk, a_builtGrammar, a_builtMoves, a_builtActions, a_tokenRules, a_tokenBegins, a_tokenEnds, a_stackStates, a_stackValues)) : wpX_keepScanner post (f_productionCount, f_textLength, f_anythingBuilt, f_tokenCount, f_parseValue, f_parsePlace, a_ruleTerms, a_ruleLengths, a_skips, a_grammar, a_ranks, a_groupings, a_text, a_heads, a_tails, a_empties, a_placeLetters, a_followers, a_ruleEnds, a_sets, a_steps, a_classes, a_finerClasses, a_states, a_moves, a_begins, a_lookaheads, a_builtCounts, a_builtSteps, a_builtMatches, a_builtSkips, a_builtGrammar, a_builtMoves, a_builtActions, a_tokenRules, a_tokenBegins, a_tokenEnds, a_stackStates, a_stackValues) (nI c) := by
  have l3 : ∀ bm bst : Nat → Int32, (∀ s, s < c → bm s = mtc en (w s) 4 0) → (∀ j, j < 244 → bst j = a_steps j) → ∀ d r (bsk : Nat → Int32), r + d = 4 → (∀ q, q < r → bsk q = vp_nar .boolean (a_skips q)) → wX_keepScanner_64 post f_productionCount f_textLength f_anythingBuilt f_tokenCount f_parseValue f_parsePlace (d + 1) (nI r) a_ruleTerms a_ruleLengths a_skips a_grammar a_ranks a_groupings a_text a_heads a_tails a_empties a_placeLetters a_followers a_ruleEnds a_sets a_steps a_classes a_finerClasses a_states a_moves a_begins a_lookaheads a_builtCounts bst bm bsk a_builtGrammar a_builtMoves a_builtActions a_tokenRules a_tokenBegins a_tokenEnds a_stackStates a_stackValues := by
    intro bm bst hbm hbst d
    induction d with
    | zero =>
      intro r bsk hr h
      have : r = 4 := by omega
      subst this
      exact pk_le 4 4 (fun _ => H bm bst bsk hbm hbst h) (fun z => absurd z (by omega))
    | succ d ih =>
      intro r bsk hr h
      have ir : vp_in (nI r) 4 := vp_in_nI (by omega) (by omega)
      refine pk_le 4 r (fun z => absurd z (by omega)) (fun _ => ⟨ir, ir, ?_⟩)
      rw [nI_clamp (show r < 2 ^ 31 by omega)]
      refine nm_e (nm_r (nI_1 r) (ih (r + 1) _ (by omega) (fun q hq => ?_)))
      by_cases e : q = r
      · subst e; exact pk_us
      · rw [pk_un e]; exact h q (by omega)
  have l2 : ∀ bm : Nat → Int32, (∀ s, s < c → bm s = mtc en (w s) 4 0) → ∀ d j (bst : Nat → Int32), j + d = 244 → (∀ q, q < j → bst q = a_steps q) → wX_keepScanner_37 post f_productionCount f_textLength f_anythingBuilt f_tokenCount f_parseValue f_parsePlace (d + 1) (nI j) a_ruleTerms a_ruleLengths a_skips a_grammar a_ranks a_groupings a_text a_heads a_tails a_empties a_placeLetters a_followers a_ruleEnds a_sets a_steps a_classes a_finerClasses a_states a_moves a_begins a_lookaheads a_builtCounts bst bm a_builtSkips a_builtGrammar a_builtMoves a_builtActions a_tokenRules a_tokenBegins a_tokenEnds a_stackStates a_stackValues := by
    intro bm hbm d
    induction d with
    | zero =>
      intro j bst hj h
      have : j = 244 := by omega
      subst this
      exact pk_le 244 244 (fun _ => ⟨5, l3 bm bst hbm h 4 0 a_builtSkips (by omega) (fun q hq => absurd hq (Nat.not_lt_zero _))⟩) (fun z => absurd z (by omega))
    | succ d ih =>
      intro j bst hj h
      have ij : vp_in (nI j) 244 := vp_in_nI (by omega) (by omega)
      refine pk_le 244 j (fun z => absurd z (by omega)) (fun _ => ⟨ij, ij, ?_⟩)
      rw [nI_clamp (show j < 2 ^ 31 by omega)]
      refine nm_e (nm_r (nI_1 j) (ih (j + 1) _ (by omega) (fun q hq => ?_)))
      by_cases e : q = j
      · subst e; exact pk_us
      · rw [pk_un e]; exact h q (by omega)
  have l1 : ∀ d s (bm : Nat → Int32), s + d = c → (∀ q, q < s → bm q = mtc en (w q) 4 0) → wX_keepScanner_2 post (nI c) f_productionCount f_textLength f_anythingBuilt f_tokenCount f_parseValue f_parsePlace (d + 1) (nI s) a_ruleTerms a_ruleLengths a_skips a_grammar a_ranks a_groupings a_text a_heads a_tails a_empties a_placeLetters a_followers a_ruleEnds a_sets a_steps a_classes a_finerClasses a_states a_moves a_begins a_lookaheads a_builtCounts a_builtSteps bm a_builtSkips a_builtGrammar a_builtMoves a_builtActions a_tokenRules a_tokenBegins a_tokenEnds a_stackStates a_stackValues := by
    intro d
    induction d with
    | zero =>
      intro s bm hs h
      have : s = c := by omega
      subst this
      have h' : ∃ n37 : Nat, wX_keepScanner_37 post f_productionCount f_textLength f_anythingBuilt f_tokenCount f_parseValue f_parsePlace n37 0 a_ruleTerms a_ruleLengths a_skips a_grammar a_ranks a_groupings a_text a_heads a_tails a_empties a_placeLetters a_followers a_ruleEnds a_sets a_steps a_classes a_finerClasses a_states a_moves a_begins a_lookaheads a_builtCounts a_builtSteps bm a_builtSkips a_builtGrammar a_builtMoves a_builtActions a_tokenRules a_tokenBegins a_tokenEnds a_stackStates a_stackValues := ⟨245, l2 bm h 244 0 a_builtSteps (by omega) (fun q hq => absurd hq (Nat.not_lt_zero _))⟩
      exact pk_le 61 s (fun _ => h') (fun _ => pk_le s s (fun _ => h') (fun z => absurd z (by omega)))
    | succ d ih =>
      intro s bm hs h
      have is : vp_in (nI s) 61 := vp_in_nI (by omega) (by omega)
      refine pk_le 61 s (fun z => absurd z (by omega)) (fun _ => pk_le c s (fun z => absurd z (by omega)) (fun _ => ⟨is, ?_⟩))
      rw [nI_clamp (show s < 2 ^ 31 by omega)]
      refine xlr (hi s (by omega)) ⟨is, nm_e (nm_r (nI_1 s) (ih (s + 1) _ (by omega) (fun q hq => ?_)))⟩
      by_cases e : q = s
      · subst e; exact pk_us
      · rw [pk_un e]; exact h q (by omega)
  exact ⟨c + 1, l1 c 0 a_builtMatches (by omega) (fun q hq => absurd hq (Nat.not_lt_zero _))⟩
theorem x_keepP {post : SX → Prop} (H : ∀ bm bg : Nat → Int32, (∀ j, j < 520 → bm j = a_moves j) → (∀ j, j < 63 → bg j = a_grammar j) → post (f_productionCount, f_textLength, f_anythingBuilt, f_tokenCount, f_parseValue, f_parsePlace, a_ruleTerms, a_ruleLengths, a_skips, a_grammar, a_ranks, a_groupings, a_text, a_heads, a_tails, a_empties, a_placeLetters, a_followers, a_ruleEnds, a_sets, a_steps, a_classes, a_finerClasses, a_states, a_moves, a_begins, a_lookaheads, a_builtCounts, a_builtSteps, a_builtMatches, a_builtSkips, bg, bm, a_builtActions, a_tokenRules, a_tokenBegins, a_tokenEnds, a_stackStates, a_stackValues)) : wpX_keepParser post (f_productionCount, f_textLength, f_anythingBuilt, f_tokenCount, f_parseValue, f_parsePlace, a_ruleTerms, a_ruleLengths, a_skips, a_grammar, a_ranks, a_groupings, a_text, a_heads, a_tails, a_empties, a_placeLetters, a_followers, a_ruleEnds, a_sets, a_steps, a_classes, a_finerClasses, a_states, a_moves, a_begins, a_lookaheads, a_builtCounts, a_builtSteps, a_builtMatches, a_builtSkips, a_builtGrammar, a_builtMoves, a_builtActions, a_tokenRules, a_tokenBegins, a_tokenEnds, a_stackStates, a_stackValues) := by
  have l2 : ∀ bm : Nat → Int32, (∀ j, j < 520 → bm j = a_moves j) → ∀ d j (bg : Nat → Int32), j + d = 63 → (∀ q, q < j → bg q = a_grammar q) → wX_keepParser_29 post f_productionCount f_textLength f_anythingBuilt f_tokenCount f_parseValue f_parsePlace (d + 1) (nI j) a_ruleTerms a_ruleLengths a_skips a_grammar a_ranks a_groupings a_text a_heads a_tails a_empties a_placeLetters a_followers a_ruleEnds a_sets a_steps a_classes a_finerClasses a_states a_moves a_begins a_lookaheads a_builtCounts a_builtSteps a_builtMatches a_builtSkips bg bm a_builtActions a_tokenRules a_tokenBegins a_tokenEnds a_stackStates a_stackValues := by
    intro bm hbm d
    induction d with
    | zero =>
      intro j bg hj h
      have : j = 63 := by omega
      subst this
      exact pk_le 63 63 (fun _ => H bm bg hbm h) (fun z => absurd z (by omega))
    | succ d ih =>
      intro j bg hj h
      have ij : vp_in (nI j) 63 := vp_in_nI (by omega) (by omega)
      refine pk_le 63 j (fun z => absurd z (by omega)) (fun _ => ⟨ij, ij, ?_⟩)
      rw [nI_clamp (show j < 2 ^ 31 by omega)]
      refine nm_e (nm_r (nI_1 j) (ih (j + 1) _ (by omega) (fun q hq => ?_)))
      by_cases e : q = j
      · subst e; exact pk_us
      · rw [pk_un e]; exact h q (by omega)
  have l1 : ∀ d j (bm : Nat → Int32), j + d = 520 → (∀ q, q < j → bm q = a_moves q) → wX_keepParser_2 post f_productionCount f_textLength f_anythingBuilt f_tokenCount f_parseValue f_parsePlace (d + 1) (nI j) a_ruleTerms a_ruleLengths a_skips a_grammar a_ranks a_groupings a_text a_heads a_tails a_empties a_placeLetters a_followers a_ruleEnds a_sets a_steps a_classes a_finerClasses a_states a_moves a_begins a_lookaheads a_builtCounts a_builtSteps a_builtMatches a_builtSkips a_builtGrammar bm a_builtActions a_tokenRules a_tokenBegins a_tokenEnds a_stackStates a_stackValues := by
    intro d
    induction d with
    | zero =>
      intro j bm hj h
      have : j = 520 := by omega
      subst this
      exact pk_le 520 520 (fun _ => ⟨64, l2 bm h 63 0 a_builtGrammar (by omega) (fun q hq => absurd hq (Nat.not_lt_zero _))⟩) (fun z => absurd z (by omega))
    | succ d ih =>
      intro j bm hj h
      have ij : vp_in (nI j) 520 := vp_in_nI (by omega) (by omega)
      refine pk_le 520 j (fun z => absurd z (by omega)) (fun _ => ⟨ij, ij, ?_⟩)
      rw [nI_clamp (show j < 2 ^ 31 by omega)]
      refine nm_e (nm_r (nI_1 j) (ih (j + 1) _ (by omega) (fun q hq => ?_)))
      by_cases e : q = j
      · subst e; exact pk_us
      · rw [pk_un e]; exact h q (by omega)
  exact ⟨521, l1 520 0 a_builtMoves (by omega) (fun q hq => absurd hq (Nat.not_lt_zero _))⟩
end
section
variable {g_productions : Int32} {g_start : Int64} {g_sets g_states g_conflicts g_ready g_length g_tokens g_stuck g_scanned g_value g_place : Int32} {b_term b_size b_skipped b_left b_right b_width b_op b_constant b_rank b_grouping b_bTerm b_bSize b_bSkipped b_bLeft b_bWidth b_bOp b_bConstant : Nat → Int32} {b_follow b_ends b_first b_last : Nat → Int64} {b_none : Nat → Int32} {b_set : Nat → Int64} {b_leads b_apart : Nat → Int32} {b_state : Nat → Int64} {b_to b_look b_begins b_nullable b_act b_built b_leadTo b_text b_fits b_token b_stack b_worth : Nat → Int32}
theorem ywl {post : Int32 → Prop} {r : Nat} (hr : r < 4) (hru : ru_ok b_term b_size) (H1 : wf_ (nv b_term) (8 * r) (nv b_size r) → post 1) (H0 : ¬ wf_ (nv b_term) (8 * r) (nv b_size r) → post 0) : wpY_wellFormed post (g_productions, g_start, g_sets, g_states, g_conflicts, g_ready, g_length, g_tokens, g_stuck, g_scanned, g_value, g_place, b_term, b_size, b_skipped, b_left, b_right, b_width, b_op, b_constant, b_rank, b_grouping, b_bTerm, b_bSize, b_bSkipped, b_bLeft, b_bWidth, b_bOp, b_bConstant, b_follow, b_ends, b_first, b_last, b_none, b_set, b_leads, b_apart, b_state, b_to, b_look, b_begins, b_nullable, b_act, b_built, b_leadTo, b_text, b_fits, b_token, b_stack, b_worth) (nI r) := by
  obtain ⟨z, hz, ez⟩ := hru.2 r
  have ezn : nv b_size r = z := by unfold nv; rw [ez]; exact nI_clamp (by omega)
  rw [ezn] at H1 H0
  have c1 : (nI r).toNatClampNeg = r := nI_clamp (by omega)
  have ir : vp_in (nI r) 4 := vp_in_nI hr (by omega)
  have e8 : 8 * nI r + nI z = nI (8 * r + z) := by rw [show (8 : Int32) = nI 8 from rfl, pk_mul, nI_add]
  have loop : ∀ d k, k + d = z → (∀ j, j < k → tk (nv b_term (8 * r + j)) ≤ dp (nv b_term) (8 * r) j) → wY_wellFormed_7 post (nI r) g_productions g_start g_sets g_states g_conflicts g_ready g_length g_tokens g_stuck g_scanned g_value g_place b_term b_size b_skipped b_left b_right b_width b_op b_constant b_rank b_grouping b_bTerm b_bSize b_bSkipped b_bLeft b_bWidth b_bOp b_bConstant b_follow b_ends b_first b_last b_none b_set b_leads b_apart b_state b_to b_look b_begins b_nullable b_act b_built b_leadTo b_text b_fits b_token b_stack b_worth (d + 1) (nI (dp (nv b_term) (8 * r) k)) (nI (8 * r + k)) := by
    intro d
    induction d with
    | zero =>
      intro k hk h
      have : k = z := by omega
      subst this
      have hd := dp_le (tm := nv b_term) (b := 8 * r) k
      refine ⟨ir, ?_⟩
      rw [c1, ez, e8]
      refine pk_le (8 * r + k) (8 * r + k) (fun _ => pk_eq (dp (nv b_term) (8 * r) k) 1 (fun e => H1 ⟨h, Or.inr e⟩) (fun e => ⟨ir, pk_eq k 0 (fun e0 => H1 ⟨h, Or.inl e0⟩) (fun e0 => H0 fun z => z.2.elim e0 e)⟩)) (fun z => absurd z (by omega))
    | succ d ih =>
      intro k hk h
      obtain ⟨t, ht, et⟩ := hru.1 (8 * r + k)
      have etn : nv b_term (8 * r + k) = t := by unfold nv; rw [et]; exact nI_clamp (by omega)
      have hd := dp_le (tm := nv b_term) (b := 8 * r) k
      have htk := tk_2 t
      have ih' := ih (k + 1) (by omega)
      have hdp : dp (nv b_term) (8 * r) (k + 1) = dp (nv b_term) (8 * r) k + 1 - tk t := by
        show _ + 1 - tk (nv b_term (8 * r + k)) = _
        rw [etn]
      rw [hdp, ← Nat.add_assoc] at ih'
      refine ⟨ir, ?_⟩
      rw [c1, ez, e8]
      refine pk_le (8 * r + z) (8 * r + k) (fun z => absurd z (by omega)) (fun _ => ⟨vp_in_nI (by omega) (by omega), ?_⟩)
      rw [nI_clamp (show 8 * r + k < 2 ^ 31 by omega), et]
      refine yta_ ht (pk_le (tk t) (dp (nv b_term) (8 * r) k) (fun c => nm_r (wf_st c) (nm_r (nI_1 _) (ih' (fun j hj => ?_)))) (fun c => H0 fun z => ?_))
      · by_cases e : j = k
        · subst e; rw [etn]; exact c
        · exact h j (by omega)
      · have := z.1 k (by omega)
        rw [etn] at this; omega
  exact nm_r (e' := nI (8 * r + 0)) (by rw [show (8 : Int32) = nI 8 from rfl, pk_mul]; rfl) ⟨z + 1, loop z 0 (by omega) (fun j hj => absurd hj (Nat.not_lt_zero _))⟩
/-- the reference's last copies -/
theorem y_tail {post : Int32 → SY → Prop} (H : ∀ bT bS bSk bL bW bO bC : Nat → Int32, (∀ k, (k < 32 → bT k = b_term k) ∧ (32 ≤ k → bT k = b_bTerm k)) → (∀ r, (r < 4 → bS r = b_size r) ∧ (4 ≤ r → bS r = b_bSize r)) → (∀ r, r < 4 → bSk r = vp_nar .boolean (b_skipped r)) → (∀ p, p < 8 → bL p = b_left p ∧ bW p = b_width p ∧ bO p = b_op p ∧ bC p = b_constant p) →
      post 0 (g_productions, g_start, g_sets, g_states, g_conflicts, 1, g_length, g_tokens, g_stuck, 0, g_value, g_place, b_term, b_size, b_skipped, b_left, b_right, b_width, b_op, b_constant, b_rank, b_grouping, bT, bS, bSk, bL, bW, bO, bC, b_follow, b_ends, b_first, b_last, b_none, b_set, b_leads, b_apart, b_state, b_to, b_look, b_begins, b_nullable, b_act, b_built, b_leadTo, b_text, b_fits, b_token, b_stack, b_worth)) : ∃ n161 : Nat, wY_build_161 post g_productions g_start g_sets g_states g_conflicts g_ready g_length g_tokens g_stuck g_scanned g_value g_place n161 0 b_term b_size b_skipped b_left b_right b_width b_op b_constant b_rank b_grouping b_bTerm b_bSize b_bSkipped b_bLeft b_bWidth b_bOp b_bConstant b_follow b_ends b_first b_last b_none b_set b_leads b_apart b_state b_to b_look b_begins b_nullable b_act b_built b_leadTo b_text b_fits b_token b_stack b_worth := by
  have l3 : ∀ bT bS bSk : Nat → Int32, (∀ k, (k < 32 → bT k = b_term k) ∧ (32 ≤ k → bT k = b_bTerm k)) → (∀ r, (r < 4 → bS r = b_size r) ∧ (4 ≤ r → bS r = b_bSize r)) → (∀ r, r < 4 → bSk r = vp_nar .boolean (b_skipped r)) →
      ∀ d p (bL bW bO bC : Nat → Int32), p + d = 8 → (∀ q, q < p → bL q = b_left q ∧ bW q = b_width q ∧ bO q = b_op q ∧ bC q = b_constant q) → wY_build_224 post g_productions g_start g_sets g_states g_conflicts g_ready g_length g_tokens g_stuck g_scanned g_value g_place (d + 1) (nI p) b_term b_size b_skipped b_left b_right b_width b_op b_constant b_rank b_grouping bT bS bSk bL bW bO bC b_follow b_ends b_first b_last b_none b_set b_leads b_apart b_state b_to b_look b_begins b_nullable b_act b_built b_leadTo b_text b_fits b_token b_stack b_worth := by
    intro bT bS bSk hT hS hSk d
    induction d with
    | zero =>
      intro p bL bW bO bC hp h
      have : p = 8 := by omega
      subst this
      exact pk_le 8 8 (fun _ => H bT bS bSk bL bW bO bC hT hS hSk h) (fun z => absurd z (by omega))
    | succ d ih =>
      intro p bL bW bO bC hp h
      have i9 : vp_in (nI p) 9 := vp_in_nI (by omega) (by omega)
      have i8 : vp_in (nI p) 8 := vp_in_nI (by omega) (by omega)
      refine pk_le 8 p (fun z => absurd z (by omega)) (fun _ => ⟨i9, i9, ?_⟩)
      rw [nI_clamp (show p < 2 ^ 31 by omega)]
      refine nm_e ⟨i9, i9, nm_e ⟨i8, i8, nm_e ⟨i8, i8, nm_e (nm_r (nI_1 p) (ih (p + 1) _ _ _ _ (by omega) (fun q hq => ?_)))⟩⟩⟩
      by_cases e : q = p
      · subst e; exact ⟨pk_us, pk_us, pk_us, pk_us⟩
      · rw [pk_un e, pk_un e, pk_un e, pk_un e]; exact h q (by omega)
  have l2 : ∀ bT : Nat → Int32, (∀ k, (k < 32 → bT k = b_term k) ∧ (32 ≤ k → bT k = b_bTerm k)) → ∀ d r (bS bSk : Nat → Int32), r + d = 4 → (∀ q, (q < r → bS q = b_size q) ∧ (r ≤ q → bS q = b_bSize q)) → (∀ q, q < r → bSk q = vp_nar .boolean (b_skipped q)) → wY_build_187 post g_productions g_start g_sets g_states g_conflicts g_ready g_length g_tokens g_stuck g_scanned g_value g_place (d + 1) (nI r) b_term b_size b_skipped b_left b_right b_width b_op b_constant b_rank b_grouping bT bS bSk b_bLeft b_bWidth b_bOp b_bConstant b_follow b_ends b_first b_last b_none b_set b_leads b_apart b_state b_to b_look b_begins b_nullable b_act b_built b_leadTo b_text b_fits b_token b_stack b_worth := by
    intro bT hT d
    induction d with
    | zero =>
      intro r bS bSk hr h1 h2
      have : r = 4 := by omega
      subst this
      exact pk_le 4 4 (fun _ => ⟨9, l3 bT bS bSk hT h1 h2 8 0 _ _ _ _ (by omega) (fun q hq => absurd hq (Nat.not_lt_zero _))⟩) (fun z => absurd z (by omega))
    | succ d ih =>
      intro r bS bSk hr h1 h2
      have ir : vp_in (nI r) 4 := vp_in_nI (by omega) (by omega)
      refine pk_le 4 r (fun z => absurd z (by omega)) (fun _ => ⟨ir, ir, ?_⟩)
      rw [nI_clamp (show r < 2 ^ 31 by omega)]
      refine nm_e ⟨ir, ir, nm_e (nm_r (nI_1 r) (ih (r + 1) _ _ (by omega) (fun q => ?_) (fun q hq => ?_)))⟩
      · by_cases e : q = r
        · subst e; exact ⟨fun _ => pk_us, fun z => absurd z (by omega)⟩
        · rw [pk_un e]; exact ⟨fun z => (h1 q).1 (by omega), fun z => (h1 q).2 (by omega)⟩
      · by_cases e : q = r
        · subst e; exact pk_us
        · rw [pk_un e]; exact h2 q (by omega)
  have l1 : ∀ d k (bT : Nat → Int32), k + d = 32 → (∀ q, (q < k → bT q = b_term q) ∧ (k ≤ q → bT q = b_bTerm q)) → wY_build_161 post g_productions g_start g_sets g_states g_conflicts g_ready g_length g_tokens g_stuck g_scanned g_value g_place (d + 1) (nI k) b_term b_size b_skipped b_left b_right b_width b_op b_constant b_rank b_grouping bT b_bSize b_bSkipped b_bLeft b_bWidth b_bOp b_bConstant b_follow b_ends b_first b_last b_none b_set b_leads b_apart b_state b_to b_look b_begins b_nullable b_act b_built b_leadTo b_text b_fits b_token b_stack b_worth := by
    intro d
    induction d with
    | zero =>
      intro k bT hk h
      have : k = 32 := by omega
      subst this
      exact pk_le 32 32 (fun _ => ⟨5, l2 bT h 4 0 _ _ (by omega) (fun q => ⟨fun z => absurd z (Nat.not_lt_zero _), fun _ => rfl⟩) (fun q hq => absurd hq (Nat.not_lt_zero _))⟩) (fun z => absurd z (by omega))
    | succ d ih =>
      intro k bT hk h
      have ik : vp_in (nI k) 32 := vp_in_nI (by omega) (by omega)
      refine pk_le 32 k (fun z => absurd z (by omega)) (fun _ => ⟨ik, ik, ?_⟩)
      rw [nI_clamp (show k < 2 ^ 31 by omega)]
      refine nm_e (nm_r (nI_1 k) (ih (k + 1) _ (by omega) (fun q => ?_)))
      by_cases e : q = k
      · subst e; exact ⟨fun _ => pk_us, fun z => absurd z (by omega)⟩
      · rw [pk_un e]; exact ⟨fun z => (h q).1 (by omega), fun z => (h q).2 (by omega)⟩
  exact ⟨33, l1 32 0 b_bTerm (by omega) (fun q => ⟨fun z => absurd z (Nat.not_lt_zero _), fun _ => rfl⟩)⟩
theorem y_88 {post : Int32 → SY → Prop} {ns c cc : Nat} (hns : ns ≤ 40) {cf : Int32}
    (Hc : ∀ (Q : Int32 → SY → Prop) (lt : Nat → Int32), (∀ ap : Nat → Int32, Q (nI cc) (g_productions, g_start, nI c, nI ns, cf, g_ready, g_length, g_tokens, g_stuck, g_scanned, g_value, g_place, b_term, b_size, b_skipped, b_left, b_right, b_width, b_op, b_constant, b_rank, b_grouping, b_bTerm, b_bSize, b_bSkipped, b_bLeft, b_bWidth, b_bOp, b_bConstant, b_follow, b_ends, b_first, b_last, b_none, b_set, b_leads, ap, b_state, b_to, b_look, b_begins, b_nullable, b_act, upd b_built 0 (nI c - 1), lt, b_text, b_fits, b_token, b_stack, b_worth)) → wpY_classes Q (g_productions, g_start, nI c, nI ns, cf, g_ready, g_length, g_tokens, g_stuck, g_scanned, g_value, g_place, b_term, b_size, b_skipped, b_left, b_right, b_width, b_op, b_constant, b_rank, b_grouping, b_bTerm, b_bSize, b_bSkipped, b_bLeft, b_bWidth, b_bOp, b_bConstant, b_follow, b_ends, b_first, b_last, b_none, b_set, b_leads, b_apart, b_state, b_to, b_look, b_begins, b_nullable, b_act, upd b_built 0 (nI c - 1), lt, b_text, b_fits, b_token, b_stack, b_worth))
    (H : ∀ lt ap : Nat → Int32, (∀ j, j < 7 * ns → lt j = b_to j) → ∃ n161 : Nat, wY_build_161 post g_productions g_start (nI c) (nI ns) cf g_ready g_length g_tokens g_stuck g_scanned g_value g_place n161 0 b_term b_size b_skipped b_left b_right b_width b_op b_constant b_rank b_grouping b_bTerm b_bSize b_bSkipped b_bLeft b_bWidth b_bOp b_bConstant b_follow b_ends b_first b_last b_none b_set b_leads ap b_state b_to b_look b_begins b_nullable b_act (upd (upd (upd (upd b_built 0 (nI c - 1)) 1 (nI cc)) 2 (nI ns)) 3 cf) lt b_text b_fits b_token b_stack b_worth) :
    ∃ n88 : Nat, wY_build_88 post g_productions g_start (nI c) (nI ns) cf g_ready g_length g_tokens g_stuck g_scanned g_value g_place n88 0 b_term b_size b_skipped b_left b_right b_width b_op b_constant b_rank b_grouping b_bTerm b_bSize b_bSkipped b_bLeft b_bWidth b_bOp b_bConstant b_follow b_ends b_first b_last b_none b_set b_leads b_apart b_state b_to b_look b_begins b_nullable b_act b_built b_leadTo b_text b_fits b_token b_stack b_worth := by
  have e7 : 7 * nI ns = nI (7 * ns) := by rw [show (7 : Int32) = nI 7 from rfl, pk_mul]
  have l1 : ∀ d k (lt : Nat → Int32), k + d = 7 * ns → (∀ q, q < k → lt q = b_to q) → wY_build_88 post g_productions g_start (nI c) (nI ns) cf g_ready g_length g_tokens g_stuck g_scanned g_value g_place (d + 1) (nI k) b_term b_size b_skipped b_left b_right b_width b_op b_constant b_rank b_grouping b_bTerm b_bSize b_bSkipped b_bLeft b_bWidth b_bOp b_bConstant b_follow b_ends b_first b_last b_none b_set b_leads b_apart b_state b_to b_look b_begins b_nullable b_act b_built lt b_text b_fits b_token b_stack b_worth := by
    intro d
    induction d with
    | zero =>
      intro k lt hk h
      have : k = 7 * ns := by omega
      subst this
      refine pk_le (7 * ns) (7 * ns) (fun _ => nm_e (Hc _ lt (fun ap => ?_))) (fun z => absurd z (by omega)) e7
      dsimp only
      exact nm_e (nm_e (nm_e (H lt ap h)))
    | succ d ih =>
      intro k lt hk h
      refine pk_le (7 * ns) k (fun z => absurd z (by omega)) (fun _ => ⟨vp_in_nI (by omega) (by omega), vp_in_nI (by omega) (by omega), ?_⟩) e7
      rw [nI_clamp (show k < 2 ^ 31 by omega)]
      refine nm_e (nm_r (nI_1 k) (ih (k + 1) _ (by omega) (fun q hq => ?_)))
      by_cases e : q = k
      · subst e; exact pk_us
      · rw [pk_un e]; exact h q (by omega)
  exact ⟨7 * ns + 1, l1 (7 * ns) 0 b_leadTo (by omega) (fun q hq => absurd hq (Nat.not_lt_zero _))⟩
end
