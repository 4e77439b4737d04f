/-! the component's cut -/
theorem mu_c {st ma : Nat → Int32} {tl : Nat → Nat} {c : Nat} (hc : c ≤ 61)
    (hst : ∀ s l, s < c → l < 4 → st (4 * s + l) = -1 ∨ ∃ q, q < c ∧ st (4 * s + l) = nI q) (hma : ∀ s, s < c → ma s = -1 ∨ ∃ r, r < 4 ∧ ma s = nI r) (htl : ∀ i, tl i < 4) :
    ∀ d i s e m, s < c → (m = -1 ∨ ∃ r, r < 4 ∧ m = nI r) → e ≤ i → ((mu st ma tl d i s (e, m)).2 = m ∧ (mu st ma tl d i s (e, m)).1 = e) ∨ (∃ r, r < 4 ∧ (mu st ma tl d i s (e, m)).2 = nI r ∧ i < (mu st ma tl d i s (e, m)).1 ∧ (mu st ma tl d i s (e, m)).1 ≤ i + d) := by
  intro d
  induction d with
  | zero => intro i s e m hs hm he; exact Or.inl ⟨rfl, rfl⟩
  | succ d ih =>
    intro i s e m hs hm he
    unfold mu
    rcases hst s (tl i) hs (htl i) with h | ⟨q, hq, h⟩
    · rw [if_pos h]; exact Or.inl ⟨rfl, rfl⟩
    · rw [if_neg (by rw [h]; exact zn_ne1 (by omega)), h, nI_clamp (by omega)]
      rcases hma q hq with h2 | ⟨r, hr, h2⟩
      · rw [if_pos h2]
        rcases ih (i + 1) q e m hq hm (by omega) with h3 | ⟨r, h3, h4, h5, h6⟩
        · exact Or.inl h3
        · exact Or.inr ⟨r, h3, h4, by omega, by omega⟩
      · rw [if_neg (by rw [h2]; exact zn_ne1 (by omega)), h2]
        rcases ih (i + 1) q (i + 1) (nI r) hq (Or.inr ⟨r, hr, rfl⟩) (by omega) with h3 | ⟨r, h3, h4, h5, h6⟩
        · exact Or.inr ⟨r, hr, h3.1, by rw [h3.2]; omega, by rw [h3.2]; omega⟩
        · exact Or.inr ⟨r, h3, h4, by omega, by omega⟩
theorem mx_c {st ma : Nat → Int32} {tl : Nat → Nat} {c : Nat} (hc0 : 0 < c) (hc : c ≤ 61)
    (hst : ∀ s l, s < c → l < 4 → st (4 * s + l) = -1 ∨ ∃ q, q < c ∧ st (4 * s + l) = nI q) (hma : ∀ s, s < c → ma s = -1 ∨ ∃ r, r < 4 ∧ ma s = nI r) (htl : ∀ i, tl i < 4) {n a : Nat} (h : a ≤ n) :
    (mx st ma tl n a).2 = -1 ∨ (∃ r, r < 4 ∧ (mx st ma tl n a).2 = nI r ∧ a < (mx st ma tl n a).1 ∧ (mx st ma tl n a).1 ≤ n) := by
  rcases mu_c hc hst hma htl (n - a) a 0 a (-1) hc0 (Or.inl rfl) (by omega) with h1 | ⟨r, h1, h2, h3, h4⟩
  · exact Or.inl h1.1
  · refine Or.inr ⟨r, h1, h2, h3, ?_⟩
    have : (mx st ma tl n a).1 ≤ a + (n - a) := h4
    omega
section
variable {f_productionCount f_textLength f_anythingBuilt f_tokenCount f_parseValue f_parsePlace : Int32} {a_ruleTerms a_ruleLengths a_skips a_grammar a_ranks a_groupings a_text a_heads a_tails a_empties a_placeLetters a_followers a_ruleEnds : Nat → Int32} {a_sets : Nat → Int64} {a_steps a_classes a_finerClasses : Nat → Int32} {a_states : Nat → Int64} {a_moves a_begins a_lookaheads a_builtCounts a_builtSteps a_builtMatches a_builtSkips a_builtGrammar a_builtMoves a_builtActions a_tokenRules a_tokenBegins a_tokenEnds a_stackStates a_stackValues : Nat → Int32} {post : Int32 → SX → Prop}
theorem xi_34 {J9 : Int32 → Int32 → Int32 → Int32 → Int32 → Int32 → Int32 → Int32 → (Nat → Int32) → (Nat → Int32) → (Nat → Int32) → (Nat → Int32) → (Nat → Int32) → (Nat → Int32) → (Nat → Int32) → (Nat → Int32) → (Nat → Int32) → (Nat → Int32) → (Nat → Int32) → (Nat → Int32) → (Nat → Int32) → (Nat → Int64) → (Nat → Int32) → (Nat → Int32) → (Nat → Int32) → (Nat → Int64) → (Nat → Int32) → (Nat → Int32) → (Nat → Int32) → (Nat → Int32) → (Nat → Int32) → (Nat → Int32) → (Nat → Int32) → (Nat → Int32) → (Nat → Int32) → (Nat → Int32) → (Nat → Int32) → (Nat → Int32) → (Nat → Int32) → (Nat → Int32) → (Nat → Int32) → Prop}
    {x1 x2 : Int32} {n c : Nat} (hn : n ≤ 20) (hc : c ≤ 61)
    (hst : ∀ s l, s < c → l < 4 → a_builtSteps (4 * s + l) = -1 ∨ ∃ q, q < c ∧ a_builtSteps (4 * s + l) = nI q) (hma : ∀ s, s < c → a_builtMatches s = -1 ∨ ∃ r, r < 4 ∧ a_builtMatches s = nI r) (htx : ∀ k, ∃ l, l < 4 ∧ a_text k = nI l) :
    ∀ d i s e m, i + d = n → s < c → wX_cutText_109 post J9 x1 x2 (nI (mu a_builtSteps a_builtMatches (nv a_text) d i s (e, m)).1) (mu a_builtSteps a_builtMatches (nv a_text) d i s (e, m)).2 f_productionCount (nI n) f_anythingBuilt f_tokenCount f_parseValue f_parsePlace a_ruleTerms a_ruleLengths a_skips a_grammar a_ranks a_groupings a_text a_heads a_tails a_empties a_placeLetters a_followers a_ruleEnds a_sets a_steps a_classes a_finerClasses a_states a_moves a_begins a_lookaheads a_builtCounts a_builtSteps a_builtMatches a_builtSkips a_builtGrammar a_builtMoves a_builtActions a_tokenRules a_tokenBegins a_tokenEnds a_stackStates a_stackValues →
      wX_cutText_34 post J9 x1 x2 f_productionCount (nI n) f_anythingBuilt f_tokenCount f_parseValue f_parsePlace a_ruleTerms a_ruleLengths a_skips a_grammar a_ranks a_groupings a_text a_heads a_tails a_empties a_placeLetters a_followers a_ruleEnds a_sets a_steps a_classes a_finerClasses a_states a_moves a_begins a_lookaheads a_builtCounts a_builtSteps a_builtMatches a_builtSkips a_builtGrammar a_builtMoves a_builtActions a_tokenRules a_tokenBegins a_tokenEnds a_stackStates a_stackValues (d + 1) (nI e) m (nI s) (nI i) := by
  intro d
  induction d with
  | zero =>
    intro i s e m hi hs H
    exact pk_le 20 i (fun _ => H) (fun _ => pk_le n i (fun _ => H) (fun z => absurd z (by omega)))
  | succ d ih =>
    intro i s e m hi hs H
    obtain ⟨l, hl, el⟩ := htx i
    have etl : nv a_text i = l := by unfold nv; rw [el]; exact nI_clamp (by omega)
    unfold mu at H
    rw [etl] at H
    have ei : nI s * 4 + nI l = nI (4 * s + l) := by rw [show (4 : Int32) = nI 4 from rfl, pk_mul, nI_add]; congr 1; omega
    refine pk_le 20 i (fun z => absurd z (by omega)) (fun _ => pk_le n i (fun z => absurd z (by omega)) (fun _ => ⟨vp_in_nI (by omega) (by omega), ?_⟩))
    rw [nI_clamp (show i < 2 ^ 31 by omega), el, ei, nI_clamp (show 4 * s + l < 2 ^ 31 by omega)]
    refine ⟨vp_in_nI (by omega) (by omega), nm_e ?_⟩
    rcases hst s l hs hl with h | ⟨q, hq, h⟩
    · rw [if_pos h] at H
      exact br_t h H
    · rw [if_neg (by rw [h]; exact zn_ne1 (by omega)), h, nI_clamp (by omega)] at H
      rw [h, nI_clamp (by omega)]
      have iq : vp_in (nI q) 61 := vp_in_nI (by omega) (by omega)
      refine br_f (zn_ne1 (by omega)) ⟨iq, ?_⟩
      by_cases h2 : a_builtMatches q = -1
      · rw [if_pos h2] at H
        exact br_t h2 (nm_r (nI_1 i) (ih (i + 1) q e m (by omega) hq H))
      · rw [if_neg h2] at H
        refine br_f h2 ⟨iq, nm_e (nm_r (nI_1 i) (nm_r (nI_1 i) (ih (i + 1) q (i + 1) _ (by omega) hq H)))⟩
theorem xi_9 {n c : Nat} (hn : n ≤ 20) (hc0 : 0 < c) (hc : c ≤ 61)
    (hst : ∀ s l, s < c → l < 4 → a_builtSteps (4 * s + l) = -1 ∨ ∃ q, q < c ∧ a_builtSteps (4 * s + l) = nI q) (hma : ∀ s, s < c → a_builtMatches s = -1 ∨ ∃ r, r < 4 ∧ a_builtMatches s = nI r) (htx : ∀ k, ∃ l, l < 4 ∧ a_text k = nI l) :
    ∀ d a cn p b e (z : Nat × Nat × (Nat → Int32) × (Nat → Int32) × (Nat → Int32)), d ≤ 20 → a ≤ n → cn + d ≤ 20 → ct a_builtSteps a_builtMatches a_builtSkips (nv a_text) n d (a, cn, p, b, e) = z →
      post (nI z.1) (f_productionCount, nI n, f_anythingBuilt, nI z.2.1, f_parseValue, f_parsePlace, a_ruleTerms, a_ruleLengths, a_skips, a_grammar, a_ranks, a_groupings, a_text, a_heads, a_tails, a_empties, a_placeLetters, a_followers, a_ruleEnds, a_sets, a_steps, a_classes, a_finerClasses, a_states, a_moves, a_begins, a_lookaheads, a_builtCounts, a_builtSteps, a_builtMatches, a_builtSkips, a_builtGrammar, a_builtMoves, a_builtActions, z.2.2.1, z.2.2.2.1, z.2.2.2.2, a_stackStates, a_stackValues) →
      wX_cutText_9 post (d + 1) (nI a) (nI (20 - d)) f_productionCount (nI n) f_anythingBuilt (nI cn) f_parseValue f_parsePlace a_ruleTerms a_ruleLengths a_skips a_grammar a_ranks a_groupings a_text a_heads a_tails a_empties a_placeLetters a_followers a_ruleEnds a_sets a_steps a_classes a_finerClasses a_states a_moves a_begins a_lookaheads a_builtCounts a_builtSteps a_builtMatches a_builtSkips a_builtGrammar a_builtMoves a_builtActions p b e a_stackStates a_stackValues := by
  have htl : ∀ i, nv a_text i < 4 := fun i => by
    obtain ⟨l, hl, el⟩ := htx i
    unfold nv; rw [el, nI_clamp (by omega)]; exact hl
  intro d
  induction d with
  | zero =>
    intro a cn p b e z hd ha hcn hz H
    subst hz
    exact pk_le 20 20 (fun _ => H) (fun z => absurd z (by omega))
  | succ d ih =>
    intro a cn p b e z hd ha hcn hz H
    refine pk_le 20 (20 - (d + 1)) (fun z => absurd z (by omega)) (fun _ => pk_le n a (fun h => ?_) (fun h => ?_))
    · unfold ct at hz
      rw [if_pos h] at hz
      subst hz; exact H
    · refine ⟨n - a + 1, xi_34 hn hc hst hma htx (n - a) a 0 a (-1) (by omega) hc0 ?_⟩
      unfold ct at hz
      rw [if_neg (by omega)] at hz
      have hmx := mx_c hc0 hc hst hma htl (n := n) (a := a) ha
      change wX_cutText_109 _ _ _ _ (nI (mx a_builtSteps a_builtMatches (nv a_text) n a).1) (mx a_builtSteps a_builtMatches (nv a_text) n a).2 f_productionCount (nI n) f_anythingBuilt (nI cn) f_parseValue f_parsePlace a_ruleTerms a_ruleLengths a_skips a_grammar a_ranks a_groupings a_text a_heads a_tails a_empties a_placeLetters a_followers a_ruleEnds a_sets a_steps a_classes a_finerClasses a_states a_moves a_begins a_lookaheads a_builtCounts a_builtSteps a_builtMatches a_builtSkips a_builtGrammar a_builtMoves a_builtActions p b e a_stackStates a_stackValues
      generalize mx a_builtSteps a_builtMatches (nv a_text) n a = r at hz hmx
      have e20 : nI (20 - (d + 1)) + 1 = nI (20 - d) := by rw [nI_1]; congr 1; omega
      rcases hmx with h2 | ⟨q, hq, h2, h3, h4⟩
      · rw [if_pos h2] at hz
        subst hz
        exact br_t h2 H
      · have hne : ¬ r.2 = -1 := by rw [h2]; exact zn_ne1 (by omega)
        rw [if_neg hne, h2, nI_clamp (by omega)] at hz
        rw [h2]
        rw [h2] at hne
        refine br_f hne ⟨vp_in_nI hq (by omega), ?_⟩
        rw [nI_clamp (show q < 2 ^ 31 by omega)]
        by_cases h5 : a_builtSkips q = 0
        · rw [if_pos h5] at hz
          refine br_t h5 ?_
          have ic : vp_in (nI cn) 20 := vp_in_nI (by omega) (by omega)
          refine ⟨ic, nm_e ⟨ic, nm_e ⟨ic, nm_e (nm_r (nI_1 cn) (nm_r e20 ?_))⟩⟩⟩
          rw [nI_clamp (show cn < 2 ^ 31 by omega)]
          exact ih r.1 (cn + 1) _ _ _ z (by omega) h4 (by omega) hz H
        · rw [if_neg h5] at hz
          exact br_f h5 (nm_r e20 (ih r.1 cn _ _ _ z (by omega) h4 (by omega) hz H))
theorem xc_cut {n : Nat} {bT bS : Nat → Int32} (hn : n ≤ 20) (hs : sc_ok a_builtSteps a_builtMatches bT bS) (htx : ∀ k, ∃ l, l < 4 ∧ a_text k = nI l)
    {z : Nat × Nat × (Nat → Int32) × (Nat → Int32) × (Nat → Int32)} (hz : ct a_builtSteps a_builtMatches a_builtSkips (nv a_text) n 20 (0, 0, a_tokenRules, a_tokenBegins, a_tokenEnds) = z)
    (H : post (nI z.1) (f_productionCount, nI n, f_anythingBuilt, nI z.2.1, f_parseValue, f_parsePlace, a_ruleTerms, a_ruleLengths, a_skips, a_grammar, a_ranks, a_groupings, a_text, a_heads, a_tails, a_empties, a_placeLetters, a_followers, a_ruleEnds, a_sets, a_steps, a_classes, a_finerClasses, a_states, a_moves, a_begins, a_lookaheads, a_builtCounts, a_builtSteps, a_builtMatches, a_builtSkips, a_builtGrammar, a_builtMoves, a_builtActions, z.2.2.1, z.2.2.2.1, z.2.2.2.2, a_stackStates, a_stackValues)) : wpX_cutText post (f_productionCount, nI n, f_anythingBuilt, f_tokenCount, f_parseValue, f_parsePlace, a_ruleTerms, a_ruleLengths, a_skips, a_grammar, a_ranks, a_groupings, a_text, a_heads, a_tails, a_empties, a_placeLetters, a_followers, a_ruleEnds, a_sets, a_steps, a_classes, a_finerClasses, a_states, a_moves, a_begins, a_lookaheads, a_builtCounts, a_builtSteps, a_builtMatches, a_builtSkips, a_builtGrammar, a_builtMoves, a_builtActions, a_tokenRules, a_tokenBegins, a_tokenEnds, a_stackStates, a_stackValues) := by
  obtain ⟨-, -, c, hc0, hc, hst, hma, -⟩ := hs
  exact ⟨21, xi_9 hn hc0 hc hst hma htx 20 0 0 _ _ _ z (by omega) (by omega) (by omega) hz H⟩
end
/-- the cut from other stale arrays: the same tokens -/
theorem ct_eq {st ma sk : Nat → Int32} {tl : Nat → Nat} {n : Nat} : ∀ d a c p b e p' b' e', (∀ k, k < c → p k = p' k ∧ b k = b' k ∧ e k = e' k) →
    (ct st ma sk tl n d (a, c, p, b, e)).1 = (ct st ma sk tl n d (a, c, p', b', e')).1 ∧ (ct st ma sk tl n d (a, c, p, b, e)).2.1 = (ct st ma sk tl n d (a, c, p', b', e')).2.1 ∧
    ∀ k, k < (ct st ma sk tl n d (a, c, p, b, e)).2.1 → (ct st ma sk tl n d (a, c, p, b, e)).2.2.1 k = (ct st ma sk tl n d (a, c, p', b', e')).2.2.1 k ∧ (ct st ma sk tl n d (a, c, p, b, e)).2.2.2.1 k = (ct st ma sk tl n d (a, c, p', b', e')).2.2.2.1 k ∧ (ct st ma sk tl n d (a, c, p, b, e)).2.2.2.2 k = (ct st ma sk tl n d (a, c, p', b', e')).2.2.2.2 k := by
  intro d
  induction d with
  | zero => intro a c p b e p' b' e' h; exact ⟨rfl, rfl, h⟩
  | succ d ih =>
    intro a c p b e p' b' e' h
    unfold ct
    by_cases h1 : n ≤ a
    · rw [if_pos h1, if_pos h1]; exact ⟨rfl, rfl, h⟩
    rw [if_neg h1, if_neg h1]
    by_cases h2 : (mx st ma tl n a).2 = -1
    · rw [if_pos h2, if_pos h2]; exact ⟨rfl, rfl, h⟩
    rw [if_neg h2, if_neg h2]
    by_cases h3 : sk (mx st ma tl n a).2.toNatClampNeg = 0
    · rw [if_pos h3, if_pos h3]
      apply ih
      intro k hk
      by_cases e1 : k = c
      · subst e1; simp only [pk_us]; exact ⟨trivial, trivial, trivial⟩
      · rw [pk_un e1, pk_un e1, pk_un e1, pk_un e1, pk_un e1, pk_un e1]; exact h k (by omega)
    · rw [if_neg h3, if_neg h3]
      exact ih _ _ _ _ _ _ _ _ h
/-- of the cut: places and tokens are within -/
theorem ct_in {st ma sk : Nat → Int32} {tl : Nat → Nat} {n c : Nat} (hc0 : 0 < c) (hc : c ≤ 61)
    (hst : ∀ s l, s < c → l < 4 → st (4 * s + l) = -1 ∨ ∃ q, q < c ∧ st (4 * s + l) = nI q) (hma : ∀ s, s < c → ma s = -1 ∨ ∃ r, r < 4 ∧ ma s = nI r) (htl : ∀ i, tl i < 4) :
    ∀ d a cn p b e, a ≤ n → (∀ k, k < cn → (∃ r, r < 4 ∧ p k = nI r) ∧ ∃ i j, i ≤ j ∧ j ≤ n ∧ b k = nI i ∧ e k = nI j) →
    (ct st ma sk tl n d (a, cn, p, b, e)).1 ≤ n ∧ (ct st ma sk tl n d (a, cn, p, b, e)).2.1 ≤ cn + d ∧
    ∀ k, k < (ct st ma sk tl n d (a, cn, p, b, e)).2.1 → (∃ r, r < 4 ∧ (ct st ma sk tl n d (a, cn, p, b, e)).2.2.1 k = nI r) ∧ ∃ i j, i ≤ j ∧ j ≤ n ∧ (ct st ma sk tl n d (a, cn, p, b, e)).2.2.2.1 k = nI i ∧ (ct st ma sk tl n d (a, cn, p, b, e)).2.2.2.2 k = nI j := by
  intro d
  induction d with
  | zero => intro a cn p b e ha h; exact ⟨ha, Nat.le_refl _, h⟩
  | succ d ih =>
    intro a cn p b e ha h
    unfold ct
    by_cases h1 : n ≤ a
    · rw [if_pos h1]; exact ⟨ha, by show cn ≤ cn + (d + 1); omega, h⟩
    rw [if_neg h1]
    rcases mx_c hc0 hc hst hma htl (n := n) (a := a) ha with h2 | ⟨q, hq, h2, h3, h4⟩
    · rw [if_pos h2]; exact ⟨ha, by show cn ≤ cn + (d + 1); omega, h⟩
    rw [if_neg (by rw [h2]; exact zn_ne1 (by omega))]
    generalize mx st ma tl n a = r at h2 h3 h4
    by_cases h5 : sk r.2.toNatClampNeg = 0
    · rw [if_pos h5]
      obtain ⟨i1, i2, i3⟩ := ih r.1 (cn + 1) (upd p cn r.2) (upd b cn (nI a)) (upd e cn (nI r.1)) h4 (fun k hk => by
        by_cases e1 : k = cn
        · subst e1; rw [pk_us, pk_us, pk_us]; exact ⟨⟨q, hq, h2⟩, a, r.1, by omega, h4, rfl, rfl⟩
        · rw [pk_un e1, pk_un e1, pk_un e1]; exact h k (by omega))
      exact ⟨i1, by omega, i3⟩
    · rw [if_neg h5]
      obtain ⟨i1, i2, i3⟩ := ih r.1 cn p b e h4 h
      exact ⟨i1, by omega, i3⟩
