/-! classes of sets: the reference; matches -/
def mtc (en : Nat → Int64) (x : Int64) : Nat → Nat → Int32
  | 0, _ => -1
  | d + 1, r => if x &&& en r = 0 then mtc en x d (r + 1) else nI r
section
variable {f_productionCount f_textLength f_anythingBuilt f_tokenCount f_parseValue f_parsePlace : Int32} {a_ruleTerms a_ruleLengths a_skips a_grammar a_ranks a_groupings a_text a_heads a_tails a_empties a_placeLetters a_followers a_ruleEnds : Nat → Int32} {a_sets : Nat → Int64} {a_steps a_classes a_finerClasses : Nat → Int32} {a_states : Nat → Int64} {a_moves a_begins a_lookaheads a_builtCounts a_builtSteps a_builtMatches a_builtSkips a_builtGrammar a_builtMoves a_builtActions a_tokenRules a_tokenBegins a_tokenEnds a_stackStates a_stackValues : Nat → Int32}
theorem xlr {post : Int32 → Prop} {v w : Int64} {en : Nat → Int64} (hi : ∀ r, r < 4 → (((a_ruleEnds r).toInt64 &&& v) = 0 ↔ (w &&& en r) = 0)) (H : post (mtc en w 4 0)) : wpX_leastRuleEndingIn post (f_productionCount, f_textLength, f_anythingBuilt, f_tokenCount, f_parseValue, f_parsePlace, a_ruleTerms, a_ruleLengths, a_skips, a_grammar, a_ranks, a_groupings, a_text, a_heads, a_tails, a_empties, a_placeLetters, a_followers, a_ruleEnds, a_sets, a_steps, a_classes, a_finerClasses, a_states, a_moves, a_begins, a_lookaheads, a_builtCounts, a_builtSteps, a_builtMatches, a_builtSkips, a_builtGrammar, a_builtMoves, a_builtActions, a_tokenRules, a_tokenBegins, a_tokenEnds, a_stackStates, a_stackValues) v := by
  have loop : ∀ d r, r + d = 4 → post (mtc en w d r) → wX_leastRuleEndingIn_2 post v f_productionCount f_textLength f_anythingBuilt f_tokenCount f_parseValue f_parsePlace a_ruleTerms a_ruleLengths a_skips a_grammar a_ranks a_groupings a_text a_heads a_tails a_empties a_placeLetters a_followers a_ruleEnds a_sets a_steps a_classes a_finerClasses a_states a_moves a_begins a_lookaheads a_builtCounts a_builtSteps a_builtMatches a_builtSkips a_builtGrammar a_builtMoves a_builtActions a_tokenRules a_tokenBegins a_tokenEnds a_stackStates a_stackValues (d + 1) (nI r) := by
    intro d
    induction d with
    | zero =>
      intro r hr h
      have : r = 4 := by omega
      subst this
      exact pk_le 4 4 (fun _ => h) (fun z => absurd z (by omega))
    | succ d ih =>
      intro r hr h
      unfold mtc at h
      refine pk_le 4 r (fun z => absurd z (by omega)) (fun _ => ⟨vp_in_nI (by omega) (by omega), ?_⟩)
      rw [nI_clamp (show r < 2 ^ 31 by omega)]
      refine br_c (fun e => ?_) (fun e => ?_)
      · rw [if_pos ((hi r (by omega)).mp e)] at h
        exact nm_r (nI_1 r) (ih (r + 1) (by omega) h)
      · rw [if_neg (fun z => e ((hi r (by omega)).mpr z))] at h
        exact h
  exact ⟨5, loop 4 0 (by omega) H⟩
end
section
variable {g_productions : Int32} {g_start : Int64} {g_sets g_states g_conflicts g_ready g_length g_tokens g_stuck g_scanned g_value g_place : Int32} {b_term b_size b_skipped b_left b_right b_width b_op b_constant b_rank b_grouping b_bTerm b_bSize b_bSkipped b_bLeft b_bWidth b_bOp b_bConstant : Nat → Int32} {b_follow b_ends b_first b_last : Nat → Int64} {b_none : Nat → Int32} {b_set : Nat → Int64} {b_leads b_apart : Nat → Int32} {b_state : Nat → Int64} {b_to b_look b_begins b_nullable b_act b_built b_leadTo b_text b_fits b_token b_stack b_worth : Nat → Int32} {c : Nat}
theorem ymt {post : Int32 → Prop} {s : Nat} (hs : s < 61) (H : post (mtc b_ends (b_set s) 4 0)) : wpY_matching post (g_productions, g_start, g_sets, g_states, g_conflicts, g_ready, g_length, g_tokens, g_stuck, g_scanned, g_value, g_place, b_term, b_size, b_skipped, b_left, b_right, b_width, b_op, b_constant, b_rank, b_grouping, b_bTerm, b_bSize, b_bSkipped, b_bLeft, b_bWidth, b_bOp, b_bConstant, b_follow, b_ends, b_first, b_last, b_none, b_set, b_leads, b_apart, b_state, b_to, b_look, b_begins, b_nullable, b_act, b_built, b_leadTo, b_text, b_fits, b_token, b_stack, b_worth) (nI s) := by
  have loop : ∀ d r, r + d = 4 → post (mtc b_ends (b_set s) d r) → wY_matching_2 post (nI s) g_productions g_start g_sets g_states g_conflicts g_ready g_length g_tokens g_stuck g_scanned g_value g_place b_term b_size b_skipped b_left b_right b_width b_op b_constant b_rank b_grouping b_bTerm b_bSize b_bSkipped b_bLeft b_bWidth b_bOp b_bConstant b_follow b_ends b_first b_last b_none b_set b_leads b_apart b_state b_to b_look b_begins b_nullable b_act b_built b_leadTo b_text b_fits b_token b_stack b_worth (d + 1) (nI r) := by
    intro d
    induction d with
    | zero =>
      intro r hr h
      have : r = 4 := by omega
      subst this
      exact pk_le 4 4 (fun _ => h) (fun z => absurd z (by omega))
    | succ d ih =>
      intro r hr h
      unfold mtc at h
      refine pk_le 4 r (fun z => absurd z (by omega)) (fun _ => ⟨vp_in_nI (by omega) (by omega), vp_in_nI (by omega) (by omega), ?_⟩)
      rw [nI_clamp (show r < 2 ^ 31 by omega), nI_clamp (show s < 2 ^ 31 by omega)]
      refine br_c (fun e => ?_) (fun e => ?_)
      · rw [if_pos e] at h
        exact nm_r (nI_1 r) (ih (r + 1) (by omega) h)
      · rw [if_neg e] at h
        exact h
  exact ⟨5, loop 4 0 (by omega) H⟩
def DF (st mt ap : Nat → Int32) (s t : Nat) : Prop := mt s ≠ mt t ∨ ∃ l, l < 4 ∧ (¬ (st (4 * s + l) = -1 ↔ st (4 * t + l) = -1) ∨ (st (4 * s + l) ≠ -1 ∧ st (4 * t + l) ≠ -1 ∧ ap (62 * dst st s l + dst st t l) ≠ 0))
theorem ydf {post : Int32 → Prop} {s t : Nat} (hc : c ≤ 61) (hO : stO b_leads c) (hs : s < c) (ht : t < c) (h1 : DF b_leads (fun s => mtc b_ends (b_set s) 4 0) b_apart s t → post 1) (h0 : ¬ DF b_leads (fun s => mtc b_ends (b_set s) 4 0) b_apart s t → post 0) : wpY_differ post (g_productions, g_start, g_sets, g_states, g_conflicts, g_ready, g_length, g_tokens, g_stuck, g_scanned, g_value, g_place, b_term, b_size, b_skipped, b_left, b_right, b_width, b_op, b_constant, b_rank, b_grouping, b_bTerm, b_bSize, b_bSkipped, b_bLeft, b_bWidth, b_bOp, b_bConstant, b_follow, b_ends, b_first, b_last, b_none, b_set, b_leads, b_apart, b_state, b_to, b_look, b_begins, b_nullable, b_act, b_built, b_leadTo, b_text, b_fits, b_token, b_stack, b_worth) (nI s) (nI t) := by
  have loop : mtc b_ends (b_set s) 4 0 = mtc b_ends (b_set t) 4 0 → ∀ d l, l + d = 4 → (∀ m, m < l → ¬ (¬ (b_leads (4 * s + m) = -1 ↔ b_leads (4 * t + m) = -1) ∨ (b_leads (4 * s + m) ≠ -1 ∧ b_leads (4 * t + m) ≠ -1 ∧ b_apart (62 * dst b_leads s m + dst b_leads t m) ≠ 0))) → wY_differ_24 post (nI s) (nI t) g_productions g_start g_sets g_states g_conflicts g_ready g_length g_tokens g_stuck g_scanned g_value g_place b_term b_size b_skipped b_left b_right b_width b_op b_constant b_rank b_grouping b_bTerm b_bSize b_bSkipped b_bLeft b_bWidth b_bOp b_bConstant b_follow b_ends b_first b_last b_none b_set b_leads b_apart b_state b_to b_look b_begins b_nullable b_act b_built b_leadTo b_text b_fits b_token b_stack b_worth (d + 1) (nI l) := by
    intro hm d
    induction d with
    | zero =>
      intro l hl h
      have : l = 4 := by omega
      subst this
      refine pk_le 4 4 (fun _ => h0 ?_) (fun z => absurd z (by omega))
      rintro (z | ⟨m, hm4, z⟩)
      · exact z hm
      · exact h m hm4 z
    | succ d ih =>
      intro l hl h
      have next : ¬ (¬ (b_leads (4 * s + l) = -1 ↔ b_leads (4 * t + l) = -1) ∨ (b_leads (4 * s + l) ≠ -1 ∧ b_leads (4 * t + l) ≠ -1 ∧ b_apart (62 * dst b_leads s l + dst b_leads t l) ≠ 0)) → wY_differ_24 post (nI s) (nI t) g_productions g_start g_sets g_states g_conflicts g_ready g_length g_tokens g_stuck g_scanned g_value g_place b_term b_size b_skipped b_left b_right b_width b_op b_constant b_rank b_grouping b_bTerm b_bSize b_bSkipped b_bLeft b_bWidth b_bOp b_bConstant b_follow b_ends b_first b_last b_none b_set b_leads b_apart b_state b_to b_look b_begins b_nullable b_act b_built b_leadTo b_text b_fits b_token b_stack b_worth (d + 1) (nI (l + 1)) := by
        intro hh
        refine ih (l + 1) (by omega) (fun m hm => ?_)
        by_cases e : m = l
        · subst e; exact hh
        · exact h m (by omega)
      have stop : (¬ (b_leads (4 * s + l) = -1 ↔ b_leads (4 * t + l) = -1) ∨ (b_leads (4 * s + l) ≠ -1 ∧ b_leads (4 * t + l) ≠ -1 ∧ b_apart (62 * dst b_leads s l + dst b_leads t l) ≠ 0)) → post 1 := fun hh => h1 (Or.inr ⟨l, by omega, hh⟩)
      refine pk_le 4 l (fun z => absurd z (by omega)) (fun _ => ?_)
      rw [show 4 * nI s + nI l = nI (4 * s + l) from by rw [show (4 : Int32) = nI 4 from rfl, pk_mul, nI_add], show 4 * nI t + nI l = nI (4 * t + l) from by rw [show (4 : Int32) = nI 4 from rfl, pk_mul, nI_add], nI_clamp (show 4 * s + l < 2 ^ 31 by omega), nI_clamp (show 4 * t + l < 2 ^ 31 by omega)]
      refine ⟨vp_in_nI (by omega) (by omega), nm_e ⟨vp_in_nI (by omega) (by omega), nm_e ?_⟩⟩
      by_cases e1 : b_leads (4 * s + l) = -1
      · rw [e1]
        refine br_f (by decide) ?_
        by_cases e2 : b_leads (4 * t + l) = -1
        · rw [e2]
          refine br_f (by decide) (br_t rfl (br_t (by decide) (nm_r (nI_1 l) (next ?_))))
          rintro (z | ⟨z, _⟩)
          · exact z ⟨fun _ => e2, fun _ => e1⟩
          · exact z e1
        · obtain ⟨q3, q4⟩ := dst_c hO hc ht (show l < 4 by omega) e2
          rw [q4]
          exact br_t (nI_pos' (by omega)) (br_f (by decide) (stop (Or.inl fun z => e2 (z.mp e1))))
      · obtain ⟨q1, q2⟩ := dst_c hO hc hs (show l < 4 by omega) e1
        by_cases e2 : b_leads (4 * t + l) = -1
        · rw [q2, e2]
          exact br_t (nI_pos' (by omega)) (br_f (by decide) (br_f (by decide) (stop (Or.inl fun z => e1 (z.mpr e2)))))
        · obtain ⟨q3, q4⟩ := dst_c hO hc ht (show l < 4 by omega) e2
          rw [q2, q4]
          refine br_t (nI_pos' (by omega)) (br_t (nI_pos' (by omega)) (br_t rfl (br_f (nI_pos (by omega)) ?_)))
          rw [show 62 * nI (dst b_leads s l) + nI (dst b_leads t l) = nI (62 * dst b_leads s l + dst b_leads t l) from by rw [show (62 : Int32) = nI 62 from rfl, pk_mul, nI_add], nI_clamp (show 62 * dst b_leads s l + dst b_leads t l < 2 ^ 31 by omega)]
          refine ⟨vp_in_nI (by omega) (by omega), br_c (fun a => nm_r (nI_1 l) (next ?_)) (fun a => stop (Or.inr ⟨e1, e2, a⟩))⟩
          rintro (z | ⟨_, _, z⟩)
          · exact z ⟨fun y => absurd y e1, fun y => absurd y e2⟩
          · exact z a
  unfold wpY_differ
  dsimp only
  refine ymt (by omega) (ymt (by omega) (br_c (fun e => ⟨5, loop e 4 0 (by omega) (fun m hm => absurd hm (Nat.not_lt_zero _))⟩) (fun e => h1 (Or.inl e))))
theorem y_classes {post : Int32 → SY → Prop} (h1 : 1 ≤ c) (hc : c ≤ 61) (hO : stO b_leads c) (hs0 : g_start = 0 ↔ c = 1) {K : Nat} (hE : Nc b_leads (fun s => mtc b_ends (b_set s) 4 0) c (K + 1) = Nc b_leads (fun s => mtc b_ends (b_set s) 4 0) c K)
    (H : ∀ ap : Nat → Int32, post (nI (if c = 1 then 0 else Nc b_leads (fun s => mtc b_ends (b_set s) 4 0) c K)) (g_productions, g_start, nI c, g_states, g_conflicts, g_ready, g_length, g_tokens, g_stuck, g_scanned, g_value, g_place, b_term, b_size, b_skipped, b_left, b_right, b_width, b_op, b_constant, b_rank, b_grouping, b_bTerm, b_bSize, b_bSkipped, b_bLeft, b_bWidth, b_bOp, b_bConstant, b_follow, b_ends, b_first, b_last, b_none, b_set, b_leads, ap, b_state, b_to, b_look, b_begins, b_nullable, b_act, b_built, b_leadTo, b_text, b_fits, b_token, b_stack, b_worth)) : wpY_classes post (g_productions, g_start, nI c, g_states, g_conflicts, g_ready, g_length, g_tokens, g_stuck, g_scanned, g_value, g_place, b_term, b_size, b_skipped, b_left, b_right, b_width, b_op, b_constant, b_rank, b_grouping, b_bTerm, b_bSize, b_bSkipped, b_bLeft, b_bWidth, b_bOp, b_bConstant, b_follow, b_ends, b_first, b_last, b_none, b_set, b_leads, b_apart, b_state, b_to, b_look, b_begins, b_nullable, b_act, b_built, b_leadTo, b_text, b_fits, b_token, b_stack, b_worth) := by
  generalize hmt : (fun s => mtc b_ends (b_set s) 4 0) = mt at hE H
  have e62 : 62 * nI c = nI (62 * c) := by rw [show (62 : Int32) = nI 62 from rfl, pk_mul]
  -- counting
  have count : ∀ ap : Nat → Int32, (∀ s t, s < c → t < c → (ap (62 * s + t) ≠ 0 ↔ ¬ Eq_ b_leads mt K s t)) → c ≠ 1 →
      ∀ d s, s + d = c → wY_classes_120 post g_productions g_start (nI c) g_states g_conflicts g_ready g_length g_tokens g_stuck g_scanned g_value g_place b_term b_size b_skipped b_left b_right b_width b_op b_constant b_rank b_grouping b_bTerm b_bSize b_bSkipped b_bLeft b_bWidth b_bOp b_bConstant b_follow b_ends b_first b_last b_none b_set b_leads ap b_state b_to b_look b_begins b_nullable b_act b_built b_leadTo b_text b_fits b_token b_stack b_worth (d + 1) (nI (cP (Fst b_leads mt K) s)) (nI s) := by
    intro ap hap hc1 d
    have hst : ¬ g_start = 0 := fun z => hc1 (hs0.mp z)
    induction d with
    | zero =>
      intro s hs
      have : s = c := by omega
      subst this
      have h' := H ap
      rw [if_neg hc1] at h'
      exact pk_le s s (fun _ => h') (fun z => absurd z (by omega))
    | succ d ih =>
      intro s hs
      have inner : ∀ d' t (f : Bool), t + d' = s → (f = true ↔ ∀ u, u < t → ¬ Eq_ b_leads mt K u s) → wY_classes_147 post (wY_classes_120 post g_productions g_start (nI c) g_states g_conflicts g_ready g_length g_tokens g_stuck g_scanned g_value g_place b_term b_size b_skipped b_left b_right b_width b_op b_constant b_rank b_grouping b_bTerm b_bSize b_bSkipped b_bLeft b_bWidth b_bOp b_bConstant b_follow b_ends b_first b_last b_none b_set b_leads ap b_state b_to b_look b_begins b_nullable b_act b_built b_leadTo b_text b_fits b_token b_stack b_worth (d + 1)) (nI (cP (Fst b_leads mt K) s)) (nI s) g_productions g_start (nI c) g_states g_conflicts g_ready g_length g_tokens g_stuck g_scanned g_value g_place b_term b_size b_skipped b_left b_right b_width b_op b_constant b_rank b_grouping b_bTerm b_bSize b_bSkipped b_bLeft b_bWidth b_bOp b_bConstant b_follow b_ends b_first b_last b_none b_set b_leads ap b_state b_to b_look b_begins b_nullable b_act b_built b_leadTo b_text b_fits b_token b_stack b_worth (d' + 1) (b2 f) (nI t) := by
        intro d'
        induction d' with
        | zero =>
          intro t f ht hf
          have : t = s := by omega
          subst this
          refine pk_le t t (fun _ => ?_) (fun z => absurd z (by omega))
          cases f with
          | false =>
            have : ¬ Fst b_leads mt K t := fun z => absurd (hf.mpr z) (by decide)
            have ih' := ih (t + 1) (by omega)
            rw [cP_f this] at ih'
            exact br_t rfl (nm_r (nI_1 t) ih')
          | true =>
            have : Fst b_leads mt K t := hf.mp rfl
            have ih' := ih (t + 1) (by omega)
            rw [cP_t this] at ih'
            exact br_f (by decide) (nm_r (nI_1 _) (nm_r (nI_1 t) ih'))
        | succ d' ih2 =>
          intro t f ht hf
          refine pk_le s t (fun z => absurd z (by omega)) (fun _ => ?_)
          cases f with
          | false =>
            refine br_t rfl (nm_r (nI_1 t) (ih2 (t + 1) false (by omega) ⟨fun z => absurd z (by decide), fun z => ?_⟩))
            exact hf.mpr (fun u hu => z u (by omega))
          | true =>
            have hall := hf.mp rfl
            refine br_f (by decide) ?_
            rw [show 62 * nI s + nI t = nI (62 * s + t) from by rw [show (62 : Int32) = nI 62 from rfl, pk_mul, nI_add], nI_clamp (show 62 * s + t < 2 ^ 31 by omega)]
            refine ⟨vp_in_nI (by omega) (by omega), br_c (fun a => nm_r (nI_1 t) (ih2 (t + 1) false (by omega) ⟨fun z => absurd z (by decide), fun z => ?_⟩)) (fun a => nm_r (nI_1 t) (ih2 (t + 1) true (by omega) ⟨fun _ u hu => ?_, fun _ => rfl⟩))⟩
            · exfalso
              have := (hap s t (by omega) (by omega)).mpr (fun y => z t (by omega) (Eq_s _ _ _ y))
              exact this a
            · by_cases e : u = t
              · subst e
                exact fun y => (hap s u (by omega) (by omega)).mp a (Eq_s _ _ _ y)
              · exact hall u (by omega)
      exact pk_le c s (fun z => absurd z (by omega)) (fun _ => br_f hst ⟨s + 1, inner s 0 true (by omega) ⟨fun _ u hu => absurd hu (Nat.not_lt_zero _), fun _ => rfl⟩⟩)
  -- one pass
  have pass : ∀ (ap0 : Nat → Int32) (J24 : Int32 → (Nat → Int32) → (Nat → Int32) → (Nat → Int32) → (Nat → Int32) → (Nat → Int32) → (Nat → Int32) → (Nat → Int32) → (Nat → Int32) → (Nat → Int32) → (Nat → Int32) → (Nat → Int32) → (Nat → Int32) → (Nat → Int32) → (Nat → Int32) → (Nat → Int32) → (Nat → Int32) → (Nat → Int32) → (Nat → Int64) → (Nat → Int64) → (Nat → Int64) → (Nat → Int64) → (Nat → Int32) → (Nat → Int64) → (Nat → Int32) → (Nat → Int32) → (Nat → Int64) → (Nat → Int32) → (Nat → Int32) → (Nat → Int32) → (Nat → Int32) → (Nat → Int32) → (Nat → Int32) → (Nat → Int32) → (Nat → Int32) → (Nat → Int32) → (Nat → Int32) → (Nat → Int32) → (Nat → Int32) → Prop), (∀ s t, s < c → t < c → ap0 (62 * s + t) ≠ 0 → ¬ Eq_ b_leads mt K s t) →
      (∀ (ap : Nat → Int32) (m : Bool), (∀ s t, s < c → t < c → ap (62 * s + t) ≠ 0 → ¬ Eq_ b_leads mt K s t) → (∀ j, ap0 j ≠ 0 → ap j ≠ 0) → (m = false → ap = ap0 ∧ ∀ s t, s < c → t < c → ap0 (62 * s + t) ≠ 0 ∨ ¬ DF b_leads mt ap0 s t) → (m = true → ∃ j, j < 3844 ∧ ap0 j = 0 ∧ ap j ≠ 0) → J24 (b2 m) b_term b_size b_skipped b_left b_right b_width b_op b_constant b_rank b_grouping b_bTerm b_bSize b_bSkipped b_bLeft b_bWidth b_bOp b_bConstant b_follow b_ends b_first b_last b_none b_set b_leads ap b_state b_to b_look b_begins b_nullable b_act b_built b_leadTo b_text b_fits b_token b_stack b_worth) →
      ∀ d k (ap : Nat → Int32) (m : Bool), k + d = 62 * c → (∀ s t, s < c → t < c → ap (62 * s + t) ≠ 0 → ¬ Eq_ b_leads mt K s t) → (∀ j, ap0 j ≠ 0 → ap j ≠ 0) → (m = false → ap = ap0 ∧ ∀ s t, s < c → t < c → 62 * s + t < k → ap0 (62 * s + t) ≠ 0 ∨ ¬ DF b_leads mt ap0 s t) → (m = true → ∃ j, j < 3844 ∧ ap0 j = 0 ∧ ap j ≠ 0) →
      wY_classes_32 post J24 g_productions g_start (nI c) g_states g_conflicts g_ready g_length g_tokens g_stuck g_scanned g_value g_place (d + 1) (b2 m) (nI k) b_term b_size b_skipped b_left b_right b_width b_op b_constant b_rank b_grouping b_bTerm b_bSize b_bSkipped b_bLeft b_bWidth b_bOp b_bConstant b_follow b_ends b_first b_last b_none b_set b_leads ap b_state b_to b_look b_begins b_nullable b_act b_built b_leadTo b_text b_fits b_token b_stack b_worth := by
    intro ap0 J24 hap0 HJ d
    induction d with
    | zero =>
      intro k ap m hk i1 i2 i3 i4
      have : k = 62 * c := by omega
      subst this
      exact pk_le (62 * c) (62 * c) (fun _ => HJ ap m i1 i2 (fun z => ⟨(i3 z).1, fun s t hs ht => (i3 z).2 s t hs ht (by omega)⟩) i4) (fun z => absurd z (by omega)) e62
    | succ d ih =>
      intro k ap m hk i1 i2 i3 i4
      have keep : (k % 62 < c → m = false → ap0 k ≠ 0 ∨ ¬ DF b_leads mt ap0 (k / 62) (k % 62)) → wY_classes_32 post J24 g_productions g_start (nI c) g_states g_conflicts g_ready g_length g_tokens g_stuck g_scanned g_value g_place (d + 1) (b2 m) (nI (k + 1)) b_term b_size b_skipped b_left b_right b_width b_op b_constant b_rank b_grouping b_bTerm b_bSize b_bSkipped b_bLeft b_bWidth b_bOp b_bConstant b_follow b_ends b_first b_last b_none b_set b_leads ap b_state b_to b_look b_begins b_nullable b_act b_built b_leadTo b_text b_fits b_token b_stack b_worth := by
        intro hh
        refine ih (k + 1) ap m (by omega) i1 i2 (fun z => ⟨(i3 z).1, fun s t hs ht hl => ?_⟩) i4
        by_cases e : 62 * s + t = k
        · have e1 : k / 62 = s := by omega
          have e2 : k % 62 = t := by omega
          have := hh (by omega) z
          rw [e1, e2] at this
          rw [e]; exact this
        · exact (i3 z).2 s t hs ht (by omega)
      refine pk_le (62 * c) k (fun z => absurd z (by omega)) (fun _ => ?_) e62
      rw [show (62 : Int32) = nI 62 from rfl, pk_rem (by omega) (by omega) (by omega), pk_div (by omega) (by omega) (by omega)]
      refine ⟨by decide, nm_e ⟨by decide, nm_e (pk_le c (k % 62) (fun z => nm_r (nI_1 k) (keep (fun y => by omega))) (fun z => ⟨vp_in_nI (by omega) (by omega), ?_⟩))⟩⟩
      rw [nI_clamp (show k < 2 ^ 31 by omega)]
      refine br_c (fun a => ?_) (fun a => nm_r (nI_1 k) (keep (fun _ hm => Or.inl (by rw [← (i3 hm).1]; exact a))))
      refine ydf (b_apart := ap) hc hO (show k / 62 < c by omega) z (fun hD => br_f (by decide) ⟨vp_in_nI (by omega) (by omega), ?_⟩) (fun hD => br_t rfl (nm_r (nI_1 k) (keep (fun _ hm => Or.inr (by rw [hmt, (i3 hm).1] at hD; exact hD)))))
      rw [hmt] at hD
      refine nm_e (nm_r (nI_1 k) (ih (k + 1) (upd ap k 1) true (by omega) (fun s t hs ht hne => ?_) (fun j hj => ?_) (fun z => absurd z (by decide)) (fun _ => ?_)))
      · by_cases e : 62 * s + t = k
        · have e1 : k / 62 = s := by omega
          have e2 : k % 62 = t := by omega
          rw [e1, e2] at hD
          intro hEq
          have hEq1 := Nc_e hE hs ht hEq
          rcases hD with y | ⟨l, hl, y⟩
          · have : ∀ k, Eq_ b_leads mt k s t → mt s = mt t := by
              intro k
              induction k with
              | zero => exact id
              | succ k ih => exact fun w => ih w.1
            exact y (this K hEq)
          · obtain ⟨w1, w2⟩ := hEq1.2 l hl
            rcases y with y | ⟨y1, y2, y3⟩
            · exact y w1
            · obtain ⟨q1, _⟩ := dst_c hO hc hs hl y1
              obtain ⟨q3, _⟩ := dst_c hO hc ht hl y2
              exact i1 _ _ q1 q3 y3 (w2 y1)
        · rw [pk_un e] at hne; exact i1 s t hs ht hne
      · by_cases e : j = k
        · subst e; rw [pk_us]; decide
        · rw [pk_un e]; exact i2 j hj
      · cases m with
        | false => exact ⟨k, by omega, by rw [← (i3 rfl).1]; exact a, by rw [pk_us]; decide⟩
        | true =>
          obtain ⟨j, j1, j2, j3⟩ := i4 rfl
          refine ⟨j, j1, j2, ?_⟩
          by_cases e : j = k
          · subst e; rw [pk_us]; decide
          · rw [pk_un e]; exact j3
  have done : ∀ (ap : Nat → Int32), (∀ s t, s < c → t < c → ap (62 * s + t) ≠ 0 → ¬ Eq_ b_leads mt K s t) → (∀ s t, s < c → t < c → ap (62 * s + t) ≠ 0 ∨ ¬ DF b_leads mt ap s t) → ∀ n, wY_classes_24 post g_productions g_start (nI c) g_states g_conflicts g_ready g_length g_tokens g_stuck g_scanned g_value g_place (n + 1) 0 b_term b_size b_skipped b_left b_right b_width b_op b_constant b_rank b_grouping b_bTerm b_bSize b_bSkipped b_bLeft b_bWidth b_bOp b_bConstant b_follow b_ends b_first b_last b_none b_set b_leads ap b_state b_to b_look b_begins b_nullable b_act b_built b_leadTo b_text b_fits b_token b_stack b_worth := by
    intro ap i1 i2 n
    have hnd : ∀ k s t, s < c → t < c → ap (62 * s + t) = 0 → Eq_ b_leads mt k s t := by
      intro k
      induction k with
      | zero =>
        intro s t hs ht h0
        rcases i2 s t hs ht with z | z
        · exact absurd h0 z
        · exact Classical.byContradiction fun y => z (Or.inl y)
      | succ k ih =>
        intro s t hs ht h0
        refine ⟨ih s t hs ht h0, fun l hl => ?_⟩
        rcases i2 s t hs ht with z | z
        · exact absurd h0 z
        · have hi : b_leads (4 * s + l) = -1 ↔ b_leads (4 * t + l) = -1 := Classical.byContradiction fun y => z (Or.inr ⟨l, hl, Or.inl y⟩)
          refine ⟨hi, fun hn => ?_⟩
          have hn' : b_leads (4 * t + l) ≠ -1 := fun y => hn (hi.mpr y)
          obtain ⟨q1, _⟩ := dst_c hO hc hs hl hn
          obtain ⟨q3, _⟩ := dst_c hO hc ht hl hn'
          exact ih _ _ q1 q3 (Classical.byContradiction fun y => z (Or.inr ⟨l, hl, Or.inr ⟨hn, hn', y⟩⟩))
    refine br_t rfl (br_c (fun z => ⟨1, ?_⟩) (fun z => ⟨c + 1, ?_⟩))
    · have c1 := hs0.mp z
      have h' := H ap
      rw [if_pos c1] at h'
      exact br_t (by rw [c1]; decide) h'
    · exact count ap (fun s t hs ht => ⟨i1 s t hs ht, fun y w => y (hnd K s t hs ht w)⟩) (fun y => z (hs0.mpr y)) c 0 (by omega)
  have rounds : ∀ d (ap : Nat → Int32), 3844 - cb (fun k => !(ap k == 0)) 3844 ≤ d → (∀ s t, s < c → t < c → ap (62 * s + t) ≠ 0 → ¬ Eq_ b_leads mt K s t) → wY_classes_24 post g_productions g_start (nI c) g_states g_conflicts g_ready g_length g_tokens g_stuck g_scanned g_value g_place (d + 2) 1 b_term b_size b_skipped b_left b_right b_width b_op b_constant b_rank b_grouping b_bTerm b_bSize b_bSkipped b_bLeft b_bWidth b_bOp b_bConstant b_follow b_ends b_first b_last b_none b_set b_leads ap b_state b_to b_look b_begins b_nullable b_act b_built b_leadTo b_text b_fits b_token b_stack b_worth := by
    intro d
    induction d with
    | zero =>
      intro ap hd i1
      refine br_f (by decide) ⟨62 * c + 1, pass ap _ i1 (fun ap' m j1 j2 j3 j4 => ?_) (62 * c) 0 ap false (by omega) i1 (fun _ h => h) (fun _ => ⟨rfl, fun s t _ _ h => absurd h (Nat.not_lt_zero _)⟩) (fun z => absurd z (by decide))⟩
      cases m with
      | false =>
        obtain ⟨e, f⟩ := j3 rfl
        subst e
        exact done _ j1 f 0
      | true =>
        exfalso
        obtain ⟨j, k1, k2, k3⟩ := j4 rfl
        have := cb_s (f := fun k => !(ap k == 0)) (g := fun k => !(ap' k == 0)) (fun k hk => by simp at hk ⊢; exact j2 k hk) (k := j) (by simp [k2]) (by simp; exact k3) 3844 k1
        have := cb_le (fun k => !(ap' k == 0)) 3844
        omega
    | succ d ih =>
      intro ap hd i1
      refine br_f (by decide) ⟨62 * c + 1, pass ap _ i1 (fun ap' m j1 j2 j3 j4 => ?_) (62 * c) 0 ap false (by omega) i1 (fun _ h => h) (fun _ => ⟨rfl, fun s t _ _ h => absurd h (Nat.not_lt_zero _)⟩) (fun z => absurd z (by decide))⟩
      cases m with
      | false =>
        obtain ⟨e, f⟩ := j3 rfl
        subst e
        exact done _ j1 f (d + 1)
      | true =>
        obtain ⟨j, k1, k2, k3⟩ := j4 rfl
        have h5 := cb_s (f := fun k => !(ap k == 0)) (g := fun k => !(ap' k == 0)) (fun k hk => by simp at hk ⊢; exact j2 k hk) (k := j) (by simp [k2]) (by simp; exact k3) 3844 k1
        have h6 := cb_le (fun k => !(ap' k == 0)) 3844
        exact ih ap' (by omega) j1
  have clear : ∀ d k (ap : Nat → Int32), k + d = 3844 → (∀ j, j < k → ap j = 0) → wY_classes_2 post g_productions g_start (nI c) g_states g_conflicts g_ready g_length g_tokens g_stuck g_scanned g_value g_place (d + 1) (nI k) b_term b_size b_skipped b_left b_right b_width b_op b_constant b_rank b_grouping b_bTerm b_bSize b_bSkipped b_bLeft b_bWidth b_bOp b_bConstant b_follow b_ends b_first b_last b_none b_set b_leads ap b_state b_to b_look b_begins b_nullable b_act b_built b_leadTo b_text b_fits b_token b_stack b_worth := by
    intro d
    induction d with
    | zero =>
      intro k ap hk h
      have : k = 3844 := by omega
      subst this
      refine pk_le 3844 3844 (fun _ => ⟨3844 + 2, rounds 3844 ap (by omega) (fun s t hs ht hne => absurd (h _ (by omega)) hne)⟩) (fun z => absurd z (by omega))
    | succ d ih =>
      intro k ap hk h
      refine pk_le 3844 k (fun z => absurd z (by omega)) (fun _ => ⟨vp_in_nI (by omega) (by omega), ?_⟩)
      rw [nI_clamp (show k < 2 ^ 31 by omega)]
      refine nm_e (nm_r (nI_1 k) (ih (k + 1) _ (by omega) (fun j hj => ?_)))
      by_cases e : j = k
      · subst e; exact pk_us
      · rw [pk_un e]; exact h j (by omega)
  exact ⟨3845, clear 3844 0 b_apart (by omega) (fun j hj => absurd hj (Nat.not_lt_zero _))⟩
end
