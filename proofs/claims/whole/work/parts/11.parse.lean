/-! parse: helpers of both sides -/
def twO (b : Nat → Bool) : Nat → Int32
  | 0 => 0
  | t + 1 => if b t then twO b t ||| ((1 : Int32) <<< (nI t &&& 31)) else twO b t
def twA (b : Nat → Bool) (a : Int32) : Nat → Int32
  | 0 => a
  | t + 1 => if b t then twA b a t + ((1 : Int32) <<< (nI t &&& 31)) else twA b a t
theorem tw_a (b : Nat → Bool) (a : Int32) : ∀ t, twA b a t = a + twA b 0 t
  | 0 => by show a = a + 0; rw [Int32.add_zero]
  | t + 1 => by
    unfold twA
    rw [tw_a b a t]
    split
    · rw [Int32.add_assoc]
    · rfl
theorem tw_5 : ∀ b0 b1 b2 b3 b4 : Bool, twA (fun t => match t with | 0 => b0 | 1 => b1 | 2 => b2 | 3 => b3 | _ => b4) 0 5 = twO (fun t => match t with | 0 => b0 | 1 => b1 | 2 => b2 | 3 => b3 | _ => b4) 5 := by decide
theorem tw_e (b : Nat → Bool) (a : Int32) : twA b a 5 = a + twO b 5 := by
  rw [tw_a]
  have h := tw_5 (b 0) (b 1) (b 2) (b 3) (b 4)
  congr 1
section
variable {f_productionCount f_textLength f_anythingBuilt f_tokenCount f_parseValue f_parsePlace : Int32} {a_ruleTerms a_ruleLengths a_skips a_grammar a_ranks a_groupings a_text a_heads a_tails a_empties a_placeLetters a_followers a_ruleEnds : Nat → Int32} {a_sets : Nat → Int64} {a_steps a_classes a_finerClasses : Nat → Int32} {a_states : Nat → Int64} {a_moves a_begins a_lookaheads a_builtCounts a_builtSteps a_builtMatches a_builtSkips a_builtGrammar a_builtMoves a_builtActions a_tokenRules a_tokenBegins a_tokenEnds a_stackStates a_stackValues : Nat → Int32} {post : Int32 → Prop}
theorem xt_4 {s : Nat} (hs : s < 40) : ∀ d t, t + d = 5 → post (twO (fun t => !(a_builtActions (5 * s + t) == -1)) 5) → wX_terminalsWithAction_4 post (nI s) f_productionCount f_textLength f_anythingBuilt f_tokenCount f_parseValue f_parsePlace a_ruleTerms a_ruleLengths a_skips a_grammar a_ranks a_groupings a_text a_heads a_tails a_empties a_placeLetters a_followers a_ruleEnds a_sets a_steps a_classes a_finerClasses a_states a_moves a_begins a_lookaheads a_builtCounts a_builtSteps a_builtMatches a_builtSkips a_builtGrammar a_builtMoves a_builtActions a_tokenRules a_tokenBegins a_tokenEnds a_stackStates a_stackValues (d + 1) (twO (fun t => !(a_builtActions (5 * s + t) == -1)) t) (nI t) := by
  intro d
  induction d with
  | zero =>
    intro t ht H
    have : t = 5 := by omega
    subst this
    exact pk_le 5 5 (fun _ => H) (fun z => absurd z (by omega))
  | succ d ih =>
    intro t ht H
    have ei : nI s * 5 + nI t = nI (5 * s + t) := by rw [show (5 : Int32) = nI 5 from rfl, pk_mul, nI_add]; congr 1; omega
    refine pk_le 5 t (fun z => absurd z (by omega)) (fun _ => ?_)
    rw [ei, nI_clamp (by omega)]
    refine ⟨vp_in_nI (by omega) (by omega), ?_⟩
    have ih' := ih (t + 1) (by omega) H
    by_cases c : a_builtActions (5 * s + t) = -1
    · refine br_t c (nm_r (nI_1 t) ?_)
      rw [twO] at ih'
      simp only [c, beq_self_eq_true, Bool.not_true] at ih'
      exact ih'
    · refine br_f c (nm_e (nm_r (nI_1 t) ?_))
      rw [twO] at ih'
      simp only [beq_eq_false_iff_ne.mpr c, Bool.not_false, if_true] at ih'
      exact ih'
theorem xt_ {s : Nat} (hs : s < 40) (H : post (twO (fun t => !(a_builtActions (5 * s + t) == -1)) 5)) : wpX_terminalsWithAction post (f_productionCount, f_textLength, f_anythingBuilt, f_tokenCount, f_parseValue, f_parsePlace, a_ruleTerms, a_ruleLengths, a_skips, a_grammar, a_ranks, a_groupings, a_text, a_heads, a_tails, a_empties, a_placeLetters, a_followers, a_ruleEnds, a_sets, a_steps, a_classes, a_finerClasses, a_states, a_moves, a_begins, a_lookaheads, a_builtCounts, a_builtSteps, a_builtMatches, a_builtSkips, a_builtGrammar, a_builtMoves, a_builtActions, a_tokenRules, a_tokenBegins, a_tokenEnds, a_stackStates, a_stackValues) (nI s) := ⟨6, xt_4 hs 5 0 (by omega) H⟩
end
def sF (v : Nat → Int32) (f : Nat) : Nat → Int32
  | 0 => 0
  | i + 1 => sF v f i + v (f + i)
def pF (v : Nat → Int32) (f : Nat) : Nat → Int32
  | 0 => 1
  | i + 1 => pF v f i * v (f + i)
def vX (v : Nat → Int32) (f o n : Nat) (c : Int32) : Int32 :=
  if o = 0 then c + sF v f n else if o = 1 then c + pF v f n else if o = 2 then (if n = 0 then c else v f * 2 - sF v f n + c) else (if 2 ≤ n then v (f + 1) + c else c)
section
variable {f_productionCount f_textLength f_anythingBuilt f_tokenCount f_parseValue f_parsePlace : Int32} {a_ruleTerms a_ruleLengths a_skips a_grammar a_ranks a_groupings a_text a_heads a_tails a_empties a_placeLetters a_followers a_ruleEnds : Nat → Int32} {a_sets : Nat → Int64} {a_steps a_classes a_finerClasses : Nat → Int32} {a_states : Nat → Int64} {a_moves a_begins a_lookaheads a_builtCounts a_builtSteps a_builtMatches a_builtSkips a_builtGrammar a_builtMoves a_builtActions a_tokenRules a_tokenBegins a_tokenEnds a_stackStates a_stackValues : Nat → Int32} {post : Int32 → Prop}
theorem xv_35 {p f n o : Nat} {c : Int32} (hp : p < 8) (hf : 1 ≤ f) (hn : n ≤ 3) (hfn : f + n ≤ 151) (ho : o < 4) (eo : a_builtGrammar (7 * p + 5) = nI o) (H : post (vX a_stackValues f o n c)) :
    ∀ d i, i + d = n → wX_valueOfReduce_35 post (nI f) (nI (7 * p)) (nI n) c f_productionCount f_textLength f_anythingBuilt f_tokenCount f_parseValue f_parsePlace a_ruleTerms a_ruleLengths a_skips a_grammar a_ranks a_groupings a_text a_heads a_tails a_empties a_placeLetters a_followers a_ruleEnds a_sets a_steps a_classes a_finerClasses a_states a_moves a_begins a_lookaheads a_builtCounts a_builtSteps a_builtMatches a_builtSkips a_builtGrammar a_builtMoves a_builtActions a_tokenRules a_tokenBegins a_tokenEnds a_stackStates a_stackValues (d + 1) (sF a_stackValues f i) (pF a_stackValues f i) (nI i) := by
  have e5 : nI (7 * p) + 5 = nI (7 * p + 5) := nI_add _ 5
  have fin : wX_valueOfReduce_82 post (nI f) (nI (7 * p)) (nI n) c (sF a_stackValues f n) (pF a_stackValues f n) f_productionCount f_textLength f_anythingBuilt f_tokenCount f_parseValue f_parsePlace a_ruleTerms a_ruleLengths a_skips a_grammar a_ranks a_groupings a_text a_heads a_tails a_empties a_placeLetters a_followers a_ruleEnds a_sets a_steps a_classes a_finerClasses a_states a_moves a_begins a_lookaheads a_builtCounts a_builtSteps a_builtMatches a_builtSkips a_builtGrammar a_builtMoves a_builtActions a_tokenRules a_tokenBegins a_tokenEnds a_stackStates a_stackValues := by
    unfold wX_valueOfReduce_82
    rw [e5, nI_clamp (by omega), eo]
    refine ⟨vp_in_nI (by omega) (by omega), nm_e (br_f (nI_pos (by omega)) ?_)⟩
    unfold vX at H
    have ef : nI f + 1 = nI (f + 1) := nI_1 f
    rw [ef]
    refine pk_lt 2 o (fun h => ?_) (fun h => pk_eq o 0 (fun h0 => ?_) (fun h0 => pk_eq o 1 (fun h1 => ?_) (fun h1 => pk_eq o 2 (fun h2 => ?_) (fun h2 => by omega))))
    · rw [if_neg (by omega), if_neg (by omega), if_neg (by omega)] at H
      refine pk_le 2 n (fun h3 => ?_) (fun h3 => ?_)
      · rw [if_pos h3] at H
        rw [nI_clamp (by omega)]
        exact ⟨vp_in_nI (by omega) (by omega), H⟩
      · rw [if_neg (by omega)] at H; exact H
    · rw [if_pos h0] at H; exact H
    · rw [if_neg h0, if_pos h1] at H; exact H
    · rw [if_neg h0, if_neg h1, if_pos h2] at H
      refine pk_eq n 0 (fun h3 => ?_) (fun h3 => ?_)
      · rw [if_pos h3] at H; exact H
      · rw [if_neg h3] at H
        rw [nI_clamp (show f < 2 ^ 31 by omega)]
        exact ⟨vp_in_nI (by omega) (by omega), H⟩
  intro d
  induction d with
  | zero =>
    intro i hi
    have : i = n := by omega
    subst this
    exact pk_le 4 i (fun _ => fin) (fun _ => pk_le i i (fun _ => fin) (fun z => absurd z (by omega)))
  | succ d ih =>
    intro i hi
    have ei : nI f + nI i = nI (f + i) := nI_add f i
    refine pk_le 4 i (fun z => absurd z (by omega)) (fun _ => pk_le n i (fun z => absurd z (by omega)) (fun _ => ?_))
    rw [ei, nI_clamp (by omega)]
    exact ⟨vp_in_nI (by omega) (by omega), nm_e ⟨vp_in_nI (by omega) (by omega), nm_e (nm_r (nI_1 i) (ih (i + 1) (by omega)))⟩⟩
theorem xv_ {p f n o : Nat} {c : Int32} (hp : p < 8) (hf : 1 ≤ f) (hn : n ≤ 3) (hfn : f + n ≤ 151) (ho : o < 4) (en : a_builtGrammar (7 * p + 1) = nI n) (eo : a_builtGrammar (7 * p + 5) = nI o) (ec : a_builtGrammar (7 * p + 6) = c)
    (H : post (vX a_stackValues f o n c)) : wpX_valueOfReduce post (f_productionCount, f_textLength, f_anythingBuilt, f_tokenCount, f_parseValue, f_parsePlace, a_ruleTerms, a_ruleLengths, a_skips, a_grammar, a_ranks, a_groupings, a_text, a_heads, a_tails, a_empties, a_placeLetters, a_followers, a_ruleEnds, a_sets, a_steps, a_classes, a_finerClasses, a_states, a_moves, a_begins, a_lookaheads, a_builtCounts, a_builtSteps, a_builtMatches, a_builtSkips, a_builtGrammar, a_builtMoves, a_builtActions, a_tokenRules, a_tokenBegins, a_tokenEnds, a_stackStates, a_stackValues) (nI p) (nI f) := by
  have e7 : nI p * 7 = nI (7 * p) := by rw [show (7 : Int32) = nI 7 from rfl, pk_mul]; congr 1; omega
  unfold wpX_valueOfReduce
  dsimp only
  rw [e7]
  refine nm_e ?_
  rw [show nI (7 * p) + 1 = nI (7 * p + 1) from nI_1 _, show nI (7 * p) + 6 = nI (7 * p + 6) from nI_add _ 6, nI_clamp (by omega), nI_clamp (by omega), en, ec]
  exact ⟨vp_in_nI (by omega) (by omega), nm_e ⟨vp_in_nI (by omega) (by omega), nm_e ⟨n + 1, xv_35 hp hf hn hfn ho eo H n 0 (by omega)⟩⟩⟩
end
def yS (o k : Nat) (x w : Int32) : Int32 := if o = 0 then x + w else if o = 1 then x * w else if o = 2 then (if k ≤ 1 then x else x - w) else x
def rF (v : Nat → Int32) (f o : Nat) (x : Int32) : Nat → Int32
  | 0 => x
  | k + 1 => yS o (k + 1) (rF v f o x k) (v (f + k))
def vY (v : Nat → Int32) (f o n : Nat) (c : Int32) : Int32 :=
  if o = 3 then (if n ≤ 1 then 0 + c else v (f + 1) + c) else if o = 0 then rF v f o c n else if o = 1 then rF v f o 1 n + c else rF v f o (if n = 0 then 0 else v f) n + c
theorem v_eq (v : Nat → Int32) (f o n : Nat) (c : Int32) (hn : n ≤ 3) (ho : o < 4) : vY v f o n c = vX v f o n c := by
  have hn' : n = 0 ∨ n = 1 ∨ n = 2 ∨ n = 3 := by omega
  have ho' : o = 0 ∨ o = 1 ∨ o = 2 ∨ o = 3 := by omega
  rcases ho' with rfl | rfl | rfl | rfl <;> rcases hn' with rfl | rfl | rfl | rfl <;> simp [vY, vX, rF, yS, sF, pF] <;> grind
theorem v_cg (v w : Nat → Int32) (f o n : Nat) (c : Int32) (hn : n ≤ 3) (h : ∀ i, i < n → v (f + i) = w (f + i)) : vX v f o n c = vX w f o n c := by
  have hn' : n = 0 ∨ n = 1 ∨ n = 2 ∨ n = 3 := by omega
  have h0 := h 0
  have h1 := h 1
  have h2 := h 2
  rcases hn' with rfl | rfl | rfl | rfl <;> simp at h0 h1 h2 <;> simp [vX, sF, pF, h0, h1, h2]
section
variable {g_productions : Int32} {g_start : Int64} {g_sets g_states g_conflicts g_ready g_length g_tokens g_stuck g_scanned g_value g_place : Int32} {b_term b_size b_skipped b_left b_right b_width b_op b_constant b_rank b_grouping b_bTerm b_bSize b_bSkipped b_bLeft b_bWidth b_bOp b_bConstant : Nat → Int32} {b_follow b_ends b_first b_last : Nat → Int64} {b_none : Nat → Int32} {b_set : Nat → Int64} {b_leads b_apart : Nat → Int32} {b_state : Nat → Int64} {b_to b_look b_begins b_nullable b_act b_built b_leadTo b_text b_fits b_token b_stack b_worth : Nat → Int32} {post : Int32 → Prop}
theorem yr_64 {p f n o : Nat} {c x : Int32} (hp : p < 8) (hn : n ≤ 3) (hfn : f + n ≤ 150) (ho : o < 4) (eo : b_bOp p = nI o)
    (H : post (if o = 3 then (if n ≤ 1 then 0 + c else b_worth (f + 2) + c) else if o = 0 then rF b_worth (f + 1) o x n else rF b_worth (f + 1) o x n + c)) :
    ∀ d k, k + d = n + 1 → 1 ≤ k → wY_result_64 post (nI p) (nI f) (nI n) c g_productions g_start g_sets g_states g_conflicts g_ready g_length g_tokens g_stuck g_scanned g_value g_place b_term b_size b_skipped b_left b_right b_width b_op b_constant b_rank b_grouping b_bTerm b_bSize b_bSkipped b_bLeft b_bWidth b_bOp b_bConstant b_follow b_ends b_first b_last b_none b_set b_leads b_apart b_state b_to b_look b_begins b_nullable b_act b_built b_leadTo b_text b_fits b_token b_stack b_worth (d + 1) (rF b_worth (f + 1) o x (k - 1)) (nI k) := by
  have cp : (nI p).toNatClampNeg = p := nI_clamp (by omega)
  have ip : vp_in (nI p) 8 := vp_in_nI hp (by omega)
  intro d
  induction d with
  | zero =>
    intro k hk hk1
    have : k = n + 1 := by omega
    subst this
    refine pk_lt n (n + 1) (fun _ => ⟨ip, ?_⟩) (fun z => absurd z (by omega))
    rw [cp, eo, show nI f + 2 = nI (f + 2) from nI_add f 2]
    refine pk_eq o 3 (fun h3 => ?_) (fun h3 => ⟨ip, pk_eq o 0 (fun h0 => ?_) (fun h0 => ?_)⟩)
    · rw [if_pos h3] at H
      refine pk_le n 1 (fun h1 => ?_) (fun h1 => ?_)
      · rw [if_pos h1] at H; exact H
      · rw [if_neg (by omega)] at H
        rw [nI_clamp (by omega)]
        exact ⟨vp_in_nI (by omega) (by omega), H⟩
    · rw [if_neg h3, if_pos h0] at H; exact H
    · rw [if_neg h3, if_neg h0] at H; exact H
  | succ d ih =>
    intro k hk hk1
    obtain ⟨q, rfl⟩ : ∃ q, k = q + 1 := ⟨k - 1, by omega⟩
    have ih' := ih (q + 1 + 1) (by omega) (by omega)
    rw [show q + 1 + 1 - 1 = q + 1 by omega, rF, show f + 1 + q = f + (q + 1) by omega] at ih'
    rw [show q + 1 - 1 = q by omega]
    refine pk_lt n (q + 1) (fun z => absurd z (by omega)) (fun _ => ?_)
    rw [show nI f + nI (q + 1) = nI (f + (q + 1)) from nI_add f (q + 1), nI_clamp (by omega)]
    refine ⟨vp_in_nI (by omega) (by omega), nm_e ⟨ip, ?_⟩⟩
    unfold wY_result_97 wY_result_114
    rw [cp, eo]
    unfold yS at ih'
    refine pk_eq o 0 (fun h => nm_e ⟨ip, pk_eq o 1 (fun z => by omega) (fun _ => ⟨ip, pk_eq o 2 (fun z => by omega) (fun _ => nm_r (nI_1 (q + 1)) ?_)⟩)⟩) (fun h => ⟨ip, pk_eq o 1 (fun h1 => nm_e ⟨ip, pk_eq o 2 (fun z => by omega) (fun _ => nm_r (nI_1 (q + 1)) ?_)⟩) (fun h1 => ⟨ip, pk_eq o 2 (fun h2 => pk_le (q + 1) 1 (fun h3 => nm_r (nI_1 (q + 1)) ?_) (fun h3 => nm_e (nm_r (nI_1 (q + 1)) ?_))) (fun h2 => nm_r (nI_1 (q + 1)) ?_)⟩)⟩)
    · rw [if_pos h] at ih'; exact ih'
    · rw [if_neg h, if_pos h1] at ih'; exact ih'
    · rw [if_neg h, if_neg h1, if_pos h2, if_pos h3] at ih'; exact ih'
    · rw [if_neg h, if_neg h1, if_pos h2, if_neg (by omega)] at ih'; exact ih'
    · rw [if_neg h, if_neg h1, if_neg h2] at ih'; exact ih'
theorem yr_ {p f n o : Nat} {c : Int32} (hp : p < 8) (hn : n ≤ 3) (hfn : f + n ≤ 150) (ho : o < 4) (en : b_bWidth p = nI n) (eo : b_bOp p = nI o) (ec : b_bConstant p = c) (H : post (vY b_worth (f + 1) o n c)) : wpY_result post (g_productions, g_start, g_sets, g_states, g_conflicts, g_ready, g_length, g_tokens, g_stuck, g_scanned, g_value, g_place, b_term, b_size, b_skipped, b_left, b_right, b_width, b_op, b_constant, b_rank, b_grouping, b_bTerm, b_bSize, b_bSkipped, b_bLeft, b_bWidth, b_bOp, b_bConstant, b_follow, b_ends, b_first, b_last, b_none, b_set, b_leads, b_apart, b_state, b_to, b_look, b_begins, b_nullable, b_act, b_built, b_leadTo, b_text, b_fits, b_token, b_stack, b_worth) (nI p) (nI f) := by
  have cp : (nI p).toNatClampNeg = p := nI_clamp (by omega)
  have ip : vp_in (nI p) 8 := vp_in_nI hp (by omega)
  unfold wpY_result
  dsimp only
  rw [cp, en, eo, ec]
  unfold vY at H
  refine ⟨vp_in_nI (by omega) (by omega), nm_e ⟨ip, nm_e ⟨ip, pk_eq o 1 (fun h1 => ⟨n + 1, ?_⟩) (fun h1 => ⟨ip, pk_eq o 0 (fun h0 => ⟨n + 1, ?_⟩) (fun h0 => pk_le n 0 (fun h2 => ⟨n + 1, ?_⟩) (fun h2 => ?_))⟩)⟩⟩⟩
  · refine yr_64 (x := 1) hp hn hfn ho eo ?_ n 1 (by omega) (by omega)
    rw [if_neg (by omega), if_neg (by omega)]
    rw [if_neg (by omega), if_neg (by omega), if_pos h1] at H; exact H
  · refine yr_64 (x := c) hp hn hfn ho eo ?_ n 1 (by omega) (by omega)
    rw [if_neg (by omega), if_pos h0]
    rw [if_neg (by omega), if_pos h0] at H; exact H
  · refine yr_64 (x := 0) hp hn hfn ho eo ?_ n 1 (by omega) (by omega)
    rw [if_neg h0, if_neg h1, if_pos (show n = 0 by omega)] at H
    rw [if_neg h0]; exact H
  · rw [show nI f + 1 = nI (f + 1) from nI_1 f, nI_clamp (by omega)]
    refine ⟨vp_in_nI (by omega) (by omega), nm_e ⟨n + 1, yr_64 (x := b_worth (f + 1)) hp hn hfn ho eo ?_ n 1 (by omega) (by omega)⟩⟩
    rw [if_neg h0, if_neg h1, if_neg (show ¬ n = 0 by omega)] at H
    rw [if_neg h0]; exact H
theorem ycol {x : Nat} (hx : sym x) (H : post (nI (col x))) : wpY_column post (g_productions, g_start, g_sets, g_states, g_conflicts, g_ready, g_length, g_tokens, g_stuck, g_scanned, g_value, g_place, b_term, b_size, b_skipped, b_left, b_right, b_width, b_op, b_constant, b_rank, b_grouping, b_bTerm, b_bSize, b_bSkipped, b_bLeft, b_bWidth, b_bOp, b_bConstant, b_follow, b_ends, b_first, b_last, b_none, b_set, b_leads, b_apart, b_state, b_to, b_look, b_begins, b_nullable, b_act, b_built, b_leadTo, b_text, b_fits, b_token, b_stack, b_worth) (nI x) := by
  unfold col at H
  have : x < 13 := by rcases hx with h | h <;> omega
  refine pk_le 4 x (fun h => ?_) (fun h => ?_)
  · rw [if_neg (by omega)] at H
    rw [show (6 : Int32) = nI 6 from rfl, pk_sub (by rcases hx with h | h <;> omega)]; exact H
  · rw [if_pos h] at H; exact H
end
