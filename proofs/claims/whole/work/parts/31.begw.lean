/-! what nonterminals begin with: both sides -/
theorem m33 : ∀ i, i < 32 → bt (-33) i = decide (i ≠ 5) := by decide +kernel
theorem m32 : ∀ i, i < 32 → bt 32 i = decide (i = 5) := by decide +kernel
theorem m15 : ∀ i, i < 32 → bt 15 i = decide (i < 4) := by decide +kernel
theorem lo_a {y : Int32} (h : low y) : y &&& (-33) = y := by
  apply b_ext; intro i hi
  rw [b_and, m33 i hi]
  by_cases c : i = 5
  · subst c; rw [h 5 (by omega)]; rfl
  · simp [c]
theorem lo_b {y : Int32} (h : low y) : (y ||| 32) &&& (-33) = y := by
  apply b_ext; intro i hi
  rw [b_and, b_or, m33 i hi, m32 i hi]
  by_cases c : i = 5
  · subst c; rw [h 5 (by omega)]; rfl
  · simp [c]
theorem lo_c {y : Int32} (h : low y) : y &&& 32 = 0 := by
  apply b_ext; intro i hi
  rw [b_and, m32 i hi, b_0]
  by_cases c : i = 5
  · subst c; rw [h 5 (by omega)]; rfl
  · simp [c]
theorem lo_d {y : Int32} : ¬ (y ||| 32) &&& 32 = 0 := by
  intro e
  have : bt ((y ||| 32) &&& 32) 5 = true := by rw [b_and, b_or, m32 5 (by omega)]; simp
  rw [e, b_0] at this; exact absurd this (by decide)
theorem pk_andE (x : Int32) {m : Int32} (k : Nat) (hm : m.toBitVec.toNat = 2 ^ k - 1) : ∃ j : Nat, j < 2 ^ k ∧ x &&& m = nI j := by
  refine ⟨x.toBitVec.toNat % 2 ^ k, Nat.mod_lt _ (Nat.two_pow_pos k), ?_⟩
  apply Int32.toBitVec_inj.mp
  apply BitVec.eq_of_toNat_eq
  rw [Int32.toBitVec_and, BitVec.toNat_and, hm, Nat.and_two_pow_sub_one_eq_mod]
  show _ = (BitVec.ofNat 32 _).toNat
  rw [BitVec.toNat_ofNat]
  exact (Nat.mod_eq_of_lt (Nat.lt_of_le_of_lt (Nat.mod_le _ _) x.toBitVec.isLt)).symm
theorem lo_15 {y : Int32} (h : low y) : y &&& 15 = y := by
  apply b_ext; intro i hi
  rw [b_and, m15 i hi]
  by_cases c : i < 4
  · simp [c]
  · rw [h i (by omega)]; rfl
theorem lo_n {y : Int32} (h : low y) : ∃ m, m < 16 ∧ y = nI m := by
  obtain ⟨j, hj, e⟩ := pk_andE y (m := 15) 4 (by decide)
  rw [lo_15 h] at e
  exact ⟨j, hj, e⟩
theorem lo_or : ∀ m, m < 16 → nI m ||| 32 = nI (m + 32) ∧ (nI m ||| 32) &&& 15 = nI m := by decide +kernel
theorem em_nt (ny : Nat → Int32) {x : Nat} (h : x < 4) : emp ny x = false := by unfold emp; rw [decide_eq_false (by omega)]; rfl
theorem one4 : ∀ x, x < 4 → ((1 : Int32) <<< (nI x &&& 31)) &&& (-33) = (1 : Int32) <<< (nI x &&& 31) ∧ ((1 : Int32) <<< (nI x &&& 31)) &&& 32 = 0 := by decide +kernel
def BR (xb : Nat → Int32) (s : (Nat → Int32) × (Nat → Int32)) : Prop := ∀ n, n < 3 → xb n = if s.2 n = 0 then s.1 n else s.1 n ||| 32
def YR (yb ny : Nat → Int32) (s : (Nat → Int32) × (Nat → Int32)) : Prop := ∀ n, n < 3 → yb n = s.1 n ∧ ny n = s.2 n
def rsv (r : Int32 × Bool) (t : Int32) : Int32 := if r.2 then r.1 ||| t else r.1
section
variable {f_productionCount f_textLength f_anythingBuilt f_tokenCount f_parseValue f_parsePlace : Int32} {a_ruleTerms a_ruleLengths a_skips a_grammar a_ranks a_groupings a_text a_heads a_tails a_empties a_placeLetters a_followers a_ruleEnds : Nat → Int32} {a_sets : Nat → Int64} {a_steps a_classes a_finerClasses : Nat → Int32} {a_states : Nat → Int64} {a_moves a_begins a_lookaheads a_builtCounts a_builtSteps a_builtMatches a_builtSkips a_builtGrammar a_builtMoves a_builtActions a_tokenRules a_tokenBegins a_tokenEnds a_stackStates a_stackValues : Nat → Int32} {pc : Nat} {L W : Nat → Nat} {R : Nat → Nat → Nat} {s : (Nat → Int32) × (Nat → Int32)}
theorem xr_4 {post : Int32 → Prop} {p k : Nat} (hp : p < 9) (hV : gr_V pc L W R) (hX : gr_X a_grammar L W R) (hs : LW s) (hB : BR a_begins s) :
    ∀ d i a, k + i + d = W p → post (rsv (rsP R s p d (k + i) a) 32) → wX_beginOfRest_4 post (nI (4 * p + k)) f_productionCount f_textLength f_anythingBuilt f_tokenCount f_parseValue f_parsePlace a_ruleTerms a_ruleLengths a_skips a_grammar a_ranks a_groupings a_text a_heads a_tails a_empties a_placeLetters a_followers a_ruleEnds a_sets a_steps a_classes a_finerClasses a_states a_moves a_begins a_lookaheads a_builtCounts a_builtSteps a_builtMatches a_builtSkips a_builtGrammar a_builtMoves a_builtActions a_tokenRules a_tokenBegins a_tokenEnds a_stackStates a_stackValues (d + 1) a (nI i) := by
  have hw := (hV.2.1 p).2.1
  intro d
  induction d with
  | zero =>
    intro i a hi H
    refine pk_le 4 i (fun z => absurd z (by omega)) (fun _ => ?_)
    rw [nI_add]
    refine xy_ (by omega) hV hX ?_
    have : nxt W R (4 * p + k + i) = -1 := by
      unfold nxt; rw [show (4 * p + k + i) / 4 = p by omega, if_neg (by omega)]
    rw [this]
    exact br_t rfl H
  | succ d ih =>
    intro i a hi H
    refine pk_le 4 i (fun z => absurd z (by omega)) (fun _ => ?_)
    rw [nI_add]
    refine xy_ (by omega) hV hX ?_
    have hsy := (hV.2.1 p).2.2 (k + i) (by omega)
    have : nxt W R (4 * p + k + i) = nI (R p (k + i)) := by
      unfold nxt; rw [show (4 * p + k + i) / 4 = p by omega, show (4 * p + k + i) % 4 = k + i by omega, if_pos (by omega)]
    rw [this]
    unfold rsP at H
    generalize R p (k + i) = x at hsy H
    have hx13 : x < 13 := by rcases hsy with z | z <;> omega
    refine br_f (zn_ne1 (by omega)) ?_
    have ih' := ih (i + 1)
    rw [← Nat.add_assoc] at ih'
    rcases hsy with c | c
    · obtain ⟨o1, o2⟩ := one4 x c
      rw [em_nt s.2 c] at H
      have hb : bgn s.1 x = (1 : Int32) <<< (nI x &&& 31) := by unfold bgn; rw [if_pos c]
      rw [hb] at H
      refine xn_f (fun ⟨j, hj, e⟩ => ?_) (br_t rfl ?_)
      · have := zn_inj (by omega) (by omega) e; omega
      · unfold wX_beginOfRest_54
        rw [o1]
        exact nm_e (br_t o2 H)
    · have hn : x - 10 < 3 := by omega
      have hb : bgn s.1 x = s.1 (x - 10) := by unfold bgn; rw [if_neg (by omega)]
      have hlow := (hs (x - 10) hn).1
      refine xn_t ⟨x, c, rfl⟩ (br_f (by decide) ?_)
      rw [show nI x - 10 = nI (x - 10) from by rw [show (10 : Int32) = nI 10 from rfl, pk_sub (by omega)], nI_clamp (by omega), hB (x - 10) hn]
      refine ⟨vp_in_nI hn (by omega), ?_⟩
      unfold wX_beginOfRest_54
      rw [hb] at H
      by_cases e0 : s.2 (x - 10) = 0
      · have he : emp s.2 x = false := by unfold emp; rw [e0]; simp
        rw [he] at H
        rw [if_pos e0, lo_a hlow]
        exact nm_e (br_t (lo_c hlow) H)
      · have he : emp s.2 x = true := by unfold emp; rw [decide_eq_true c.1, beq_eq_false_iff_ne.mpr e0]; rfl
        rw [he] at H
        rw [if_neg e0, lo_b hlow]
        exact nm_e (br_f lo_d (nm_r (nI_1 i) (ih' _ (by omega) H)))
theorem xr_ {post : Int32 → Prop} {p k : Nat} (hp : p < 9) (hk : k ≤ W p) (hV : gr_V pc L W R) (hX : gr_X a_grammar L W R) (hs : LW s) (hB : BR a_begins s) (H : post (rsv (rst W R s p k) 32)) : wpX_beginOfRest post (f_productionCount, f_textLength, f_anythingBuilt, f_tokenCount, f_parseValue, f_parsePlace, a_ruleTerms, a_ruleLengths, a_skips, a_grammar, a_ranks, a_groupings, a_text, a_heads, a_tails, a_empties, a_placeLetters, a_followers, a_ruleEnds, a_sets, a_steps, a_classes, a_finerClasses, a_states, a_moves, a_begins, a_lookaheads, a_builtCounts, a_builtSteps, a_builtMatches, a_builtSkips, a_builtGrammar, a_builtMoves, a_builtActions, a_tokenRules, a_tokenBegins, a_tokenEnds, a_stackStates, a_stackValues) (nI (4 * p + k)) :=
  ⟨W p - k + 1, xr_4 hp hV hX hs hB (W p - k) 0 0 (by omega) H⟩
end
section
variable {g_productions : Int32} {g_start : Int64} {g_sets g_states g_conflicts g_ready g_length g_tokens g_stuck g_scanned g_value g_place : Int32} {b_term b_size b_skipped b_left b_right b_width b_op b_constant b_rank b_grouping b_bTerm b_bSize b_bSkipped b_bLeft b_bWidth b_bOp b_bConstant : Nat → Int32} {b_follow b_ends b_first b_last : Nat → Int64} {b_none : Nat → Int32} {b_set : Nat → Int64} {b_leads b_apart : Nat → Int32} {b_state : Nat → Int64} {b_to b_look b_begins b_nullable b_act b_built b_leadTo b_text b_fits b_token b_stack b_worth : Nat → Int32} {pc : Nat} {L W : Nat → Nat} {R : Nat → Nat → Nat} {s : (Nat → Int32) × (Nat → Int32)}
theorem yb_ {post : Int32 → Prop} {x : Nat} (hx : sym x) (hB : YR b_begins b_nullable s) (H : post (bgn s.1 x)) : wpY_begin post (g_productions, g_start, g_sets, g_states, g_conflicts, g_ready, g_length, g_tokens, g_stuck, g_scanned, g_value, g_place, b_term, b_size, b_skipped, b_left, b_right, b_width, b_op, b_constant, b_rank, b_grouping, b_bTerm, b_bSize, b_bSkipped, b_bLeft, b_bWidth, b_bOp, b_bConstant, b_follow, b_ends, b_first, b_last, b_none, b_set, b_leads, b_apart, b_state, b_to, b_look, b_begins, b_nullable, b_act, b_built, b_leadTo, b_text, b_fits, b_token, b_stack, b_worth) (nI x) := by
  have hx13 : x < 13 := by rcases hx with z | z <;> omega
  refine br_t (nI_pos' (by omega)) (pk_le 4 x (fun c => ?_) (fun c => ?_))
  · have hn : x - 10 < 3 := by rcases hx with z | z <;> omega
    rw [show nI x - 10 = nI (x - 10) from by rw [show (10 : Int32) = nI 10 from rfl, pk_sub (by rcases hx with z | z <;> omega)], nI_clamp (by omega), (hB _ hn).1]
    unfold bgn at H; rw [if_neg (by omega)] at H
    exact ⟨vp_in_nI hn (by omega), H⟩
  · unfold bgn at H; rw [if_pos c] at H; exact H
theorem ye_ {post : Int32 → Prop} {x : Nat} (hx : sym x) (hB : YR b_begins b_nullable s) (H : post (b2 (emp s.2 x))) : wpY_empties post (g_productions, g_start, g_sets, g_states, g_conflicts, g_ready, g_length, g_tokens, g_stuck, g_scanned, g_value, g_place, b_term, b_size, b_skipped, b_left, b_right, b_width, b_op, b_constant, b_rank, b_grouping, b_bTerm, b_bSize, b_bSkipped, b_bLeft, b_bWidth, b_bOp, b_bConstant, b_follow, b_ends, b_first, b_last, b_none, b_set, b_leads, b_apart, b_state, b_to, b_look, b_begins, b_nullable, b_act, b_built, b_leadTo, b_text, b_fits, b_token, b_stack, b_worth) (nI x) := by
  have hx13 : x < 13 := by rcases hx with z | z <;> omega
  refine br_f (nI_pos (by omega)) (pk_le x 9 (fun c => ?_) (fun c => ?_))
  · rw [em_nt s.2 (by rcases hx with z | z <;> omega)] at H; exact H
  · have hn : x - 10 < 3 := by omega
    rw [show nI x - 10 = nI (x - 10) from by rw [show (10 : Int32) = nI 10 from rfl, pk_sub (by omega)], nI_clamp (by omega), (hB _ hn).2]
    refine ⟨vp_in_nI hn (by omega), br_c (fun e => ?_) (fun e => ?_)⟩
    · have he : emp s.2 x = false := by unfold emp; rw [e]; simp
      rw [he] at H; exact H
    · have he : emp s.2 x = true := by unfold emp; rw [decide_eq_true (by omega), beq_eq_false_iff_ne.mpr e]; rfl
      rw [he] at H; exact H
theorem yr_6 {post : Int32 → Prop} {p : Nat} {th : Int32} (hp : p < 9) (hV : gr_V pc L W R) (hY : gr_Y b_left b_right b_width L W R) (hB : YR b_begins b_nullable s) :
    ∀ d k a, k + d = W p → post (rsv (rsP R s p d k a) th) → wY_beginning_6 post (nI p) th g_productions g_start g_sets g_states g_conflicts g_ready g_length g_tokens g_stuck g_scanned g_value g_place b_term b_size b_skipped b_left b_right b_width b_op b_constant b_rank b_grouping b_bTerm b_bSize b_bSkipped b_bLeft b_bWidth b_bOp b_bConstant b_follow b_ends b_first b_last b_none b_set b_leads b_apart b_state b_to b_look b_begins b_nullable b_act b_built b_leadTo b_text b_fits b_token b_stack b_worth (d + 1) a (nI k) := by
  have hw := (hV.2.1 p).2.1
  obtain ⟨g1, g2, g3⟩ := hY p hp
  have cp : (nI p).toNatClampNeg = p := nI_clamp (by omega)
  have ip : vp_in (nI p) 9 := vp_in_nI hp (by omega)
  intro d
  induction d with
  | zero =>
    intro k a hk H
    refine ⟨ip, ?_⟩
    rw [cp, g2]
    exact pk_le (W p) k (fun _ => H) (fun z => absurd z (by omega))
  | succ d ih =>
    intro k a hk H
    refine ⟨ip, ?_⟩
    rw [cp, g2]
    refine pk_le (W p) k (fun z => absurd z (by omega)) (fun _ => ?_)
    have hsy := (hV.2.1 p).2.2 k (by omega)
    rw [show 3 * nI p + nI k = nI (3 * p + k) from by rw [show (3 : Int32) = nI 3 from rfl, pk_mul, nI_add], nI_clamp (by omega), g3 k (by omega)]
    have i27 : vp_in (nI (3 * p + k)) 27 := vp_in_nI (by omega) (by omega)
    unfold rsP at H
    refine ⟨i27, yb_ hsy hB (nm_e ⟨i27, ye_ hsy hB ?_⟩)⟩
    cases he : emp s.2 (R p k) with
    | false => rw [he] at H; exact br_t rfl H
    | true => rw [he] at H; exact br_f (by decide) (nm_r (nI_1 k) (ih (k + 1) _ (by omega) H))
theorem yr_b {post : Int32 → Prop} {p k : Nat} {th : Int32} (hp : p < 9) (hk : k ≤ W p) (hV : gr_V pc L W R) (hY : gr_Y b_left b_right b_width L W R) (hB : YR b_begins b_nullable s) (H : post (rsv (rst W R s p k) th)) : wpY_beginning post (g_productions, g_start, g_sets, g_states, g_conflicts, g_ready, g_length, g_tokens, g_stuck, g_scanned, g_value, g_place, b_term, b_size, b_skipped, b_left, b_right, b_width, b_op, b_constant, b_rank, b_grouping, b_bTerm, b_bSize, b_bSkipped, b_bLeft, b_bWidth, b_bOp, b_bConstant, b_follow, b_ends, b_first, b_last, b_none, b_set, b_leads, b_apart, b_state, b_to, b_look, b_begins, b_nullable, b_act, b_built, b_leadTo, b_text, b_fits, b_token, b_stack, b_worth) (nI p) (nI k) th :=
  ⟨W p - k + 1, yr_6 hp hV hY hB (W p - k) k 0 (by omega) H⟩
end
section
variable {f_productionCount f_textLength f_anythingBuilt f_tokenCount f_parseValue f_parsePlace : Int32} {a_ruleTerms a_ruleLengths a_skips a_grammar a_ranks a_groupings a_text a_heads a_tails a_empties a_placeLetters a_followers a_ruleEnds : Nat → Int32} {a_sets : Nat → Int64} {a_steps a_classes a_finerClasses : Nat → Int32} {a_states : Nat → Int64} {a_moves a_begins a_lookaheads a_builtCounts a_builtSteps a_builtMatches a_builtSkips a_builtGrammar a_builtMoves a_builtActions a_tokenRules a_tokenBegins a_tokenEnds a_stackStates a_stackValues : Nat → Int32} {pc : Nat} {L W : Nat → Nat} {R : Nat → Nat → Nat}
theorem BR_p {xb : Nat → Int32} {s : (Nat → Int32) × (Nat → Int32)} (hV : gr_V pc L W R) {p : Nat} (hp : p < pc) (hs : LW s) (h : BR xb s) : BR (upd xb (L p - 10) (xb (L p - 10) ||| rsv (rst W R s p 0) 32)) (pstp L W R p s) := by
  have hL := hV.2.2.1 p hp
  intro n hn
  unfold pstp
  dsimp only
  by_cases e : n = L p - 10
  · subst e
    rw [pk_us, pk_us, h _ hn]
    unfold rsv
    generalize (rst W R s p 0).1 = A
    cases (rst W R s p 0).2 with
    | false =>
      rw [if_neg (show ¬ (false = true) by decide), if_neg (show ¬ (false = true) by decide)]
      by_cases e0 : s.2 (L p - 10) = 0
      · rw [if_pos e0, if_pos e0]
      · rw [if_neg e0, if_neg e0]
        apply b_ext; intro i _
        simp only [b_or]
        cases bt (s.1 (L p - 10)) i <;> cases bt A i <;> simp
    | true =>
      rw [if_pos rfl, if_pos rfl, if_neg (show ¬ upd s.2 (L p - 10) 1 (L p - 10) = 0 by rw [pk_us]; decide)]
      apply b_ext; intro i _
      by_cases e0 : s.2 (L p - 10) = 0
      · rw [if_pos e0]; simp only [b_or, Bool.or_assoc]
      · rw [if_neg e0]; simp only [b_or]
        cases bt (s.1 (L p - 10)) i <;> cases bt A i <;> simp
  · rw [pk_un e, pk_un e]
    have : (if (rst W R s p 0).2 = true then upd s.2 (L p - 10) 1 else s.2) n = s.2 n := by
      split
      · exact pk_un e
      · rfl
    simp only [this]; exact h n hn
theorem xf_30 {post : SX → Prop} {J22 : Int32 → (Nat → Int32) → (Nat → Int32) → (Nat → Int32) → (Nat → Int32) → (Nat → Int32) → (Nat → Int32) → (Nat → Int32) → (Nat → Int32) → (Nat → Int32) → (Nat → Int32) → (Nat → Int32) → (Nat → Int32) → (Nat → Int32) → (Nat → Int64) → (Nat → Int32) → (Nat → Int32) → (Nat → Int32) → (Nat → Int64) → (Nat → Int32) → (Nat → Int32) → (Nat → Int32) → (Nat → Int32) → (Nat → Int32) → (Nat → Int32) → (Nat → Int32) → (Nat → Int32) → (Nat → Int32) → (Nat → Int32) → (Nat → Int32) → (Nat → Int32) → (Nat → Int32) → (Nat → Int32) → (Nat → Int32) → Prop} {k : Nat} {s : (Nat → Int32) × (Nat → Int32)} (hs : LW s) (hV : gr_V pc L W R) (hX : gr_X a_grammar L W R) (H : ∀ xb : Nat → Int32, BR xb (rnd L W R pc s) → J22 (nI (k + 1)) a_ruleTerms a_ruleLengths a_skips a_grammar a_ranks a_groupings a_text a_heads a_tails a_empties a_placeLetters a_followers a_ruleEnds a_sets a_steps a_classes a_finerClasses a_states a_moves xb a_lookaheads a_builtCounts a_builtSteps a_builtMatches a_builtSkips a_builtGrammar a_builtMoves a_builtActions a_tokenRules a_tokenBegins a_tokenEnds a_stackStates a_stackValues) :
    ∀ d p (xb : Nat → Int32), p + d = pc → BR xb (rnd L W R p s) → wX_findBegins_30 post J22 (nI k) (nI pc) f_textLength f_anythingBuilt f_tokenCount f_parseValue f_parsePlace (d + 1) (nI p) a_ruleTerms a_ruleLengths a_skips a_grammar a_ranks a_groupings a_text a_heads a_tails a_empties a_placeLetters a_followers a_ruleEnds a_sets a_steps a_classes a_finerClasses a_states a_moves xb a_lookaheads a_builtCounts a_builtSteps a_builtMatches a_builtSkips a_builtGrammar a_builtMoves a_builtActions a_tokenRules a_tokenBegins a_tokenEnds a_stackStates a_stackValues := by
  have hpc := hV.1
  intro d
  induction d with
  | zero =>
    intro p xb hp h
    have : p = pc := by omega
    subst this
    exact pk_le 8 p (fun _ => nm_r (nI_1 k) (H xb h)) (fun _ => pk_le p p (fun _ => nm_r (nI_1 k) (H xb h)) (fun z => absurd z (by omega)))
  | succ d ih =>
    intro p xb hp h
    have hL := hV.2.2.1 p (by omega)
    have hls := LW_r hs hV p (by omega)
    refine pk_le 8 p (fun z => absurd z (by omega)) (fun _ => pk_le pc p (fun z => absurd z (by omega)) (fun _ => ?_))
    rw [show nI p * 7 + 0 = nI (7 * p) from by rw [show (7 : Int32) = nI 7 from rfl, show (0 : Int32) = nI 0 from rfl, pk_mul, nI_add]; congr 1; omega, nI_clamp (by omega), (hX p (by omega)).1, show nI p * 4 = nI (4 * p + 0) from by rw [show (4 : Int32) = nI 4 from rfl, pk_mul]; congr 1; omega]
    refine ⟨vp_in_nI (by omega) (by omega), nm_r (e' := nI (L p - 10)) (by rw [show (10 : Int32) = nI 10 from rfl, pk_sub (by omega)]) ?_⟩
    rw [nI_clamp (show L p - 10 < 2 ^ 31 by omega)]
    have i3 : vp_in (nI (L p - 10)) 3 := vp_in_nI (by omega) (by omega)
    exact ⟨i3, xr_ (a_begins := xb) (by omega) (by omega) hV hX hls h ⟨i3, nm_e (nm_r (nI_1 p) (ih (p + 1) _ (by omega) (BR_p hV (by omega) hls h)))⟩⟩
theorem xf_22 {post : SX → Prop} {s : (Nat → Int32) × (Nat → Int32)} (hs : LW s) (hV : gr_V pc L W R) (hX : gr_X a_grammar L W R) (H : ∀ xb : Nat → Int32, BR xb (itr (rnd L W R pc) 19 s) → post (nI pc, f_textLength, f_anythingBuilt, f_tokenCount, f_parseValue, f_parsePlace, a_ruleTerms, a_ruleLengths, a_skips, a_grammar, a_ranks, a_groupings, a_text, a_heads, a_tails, a_empties, a_placeLetters, a_followers, a_ruleEnds, a_sets, a_steps, a_classes, a_finerClasses, a_states, a_moves, xb, a_lookaheads, a_builtCounts, a_builtSteps, a_builtMatches, a_builtSkips, a_builtGrammar, a_builtMoves, a_builtActions, a_tokenRules, a_tokenBegins, a_tokenEnds, a_stackStates, a_stackValues)) :
    ∀ d k (xb : Nat → Int32), k + d = 19 → BR xb (itr (rnd L W R pc) k s) → wX_findBegins_22 post (nI pc) f_textLength f_anythingBuilt f_tokenCount f_parseValue f_parsePlace (d + 1) (nI k) a_ruleTerms a_ruleLengths a_skips a_grammar a_ranks a_groupings a_text a_heads a_tails a_empties a_placeLetters a_followers a_ruleEnds a_sets a_steps a_classes a_finerClasses a_states a_moves xb a_lookaheads a_builtCounts a_builtSteps a_builtMatches a_builtSkips a_builtGrammar a_builtMoves a_builtActions a_tokenRules a_tokenBegins a_tokenEnds a_stackStates a_stackValues := by
  intro d
  induction d with
  | zero =>
    intro k xb hk h
    have : k = 19 := by omega
    subst this
    exact pk_le 19 19 (fun _ => H xb h) (fun z => absurd z (by omega))
  | succ d ih =>
    intro k xb hk h
    refine pk_le 19 k (fun z => absurd z (by omega)) (fun _ => ⟨pc + 1, xf_30 (LW_i hs hV k) hV hX (fun xb' h' => ih (k + 1) xb' (by omega) h') pc 0 xb (by omega) h⟩)
theorem xf_b2 {post : SX → Prop} (hV : gr_V pc L W R) (hX : gr_X a_grammar L W R) (H : ∀ xb : Nat → Int32, BR xb (itr (rnd L W R pc) 8 (fun _ => 0, fun _ => 0)) → post (nI pc, f_textLength, f_anythingBuilt, f_tokenCount, f_parseValue, f_parsePlace, a_ruleTerms, a_ruleLengths, a_skips, a_grammar, a_ranks, a_groupings, a_text, a_heads, a_tails, a_empties, a_placeLetters, a_followers, a_ruleEnds, a_sets, a_steps, a_classes, a_finerClasses, a_states, a_moves, xb, a_lookaheads, a_builtCounts, a_builtSteps, a_builtMatches, a_builtSkips, a_builtGrammar, a_builtMoves, a_builtActions, a_tokenRules, a_tokenBegins, a_tokenEnds, a_stackStates, a_stackValues)) :
    ∀ d n (xb : Nat → Int32), n + d = 3 → (∀ k, k < n → xb k = 0) → wX_findBegins_2 post (nI pc) f_textLength f_anythingBuilt f_tokenCount f_parseValue f_parsePlace (d + 1) (nI n) a_ruleTerms a_ruleLengths a_skips a_grammar a_ranks a_groupings a_text a_heads a_tails a_empties a_placeLetters a_followers a_ruleEnds a_sets a_steps a_classes a_finerClasses a_states a_moves xb a_lookaheads a_builtCounts a_builtSteps a_builtMatches a_builtSkips a_builtGrammar a_builtMoves a_builtActions a_tokenRules a_tokenBegins a_tokenEnds a_stackStates a_stackValues := by
  have hz : LW (fun _ => 0, fun _ => 0) := fun n _ => ⟨low_0, Or.inl rfl⟩
  intro d
  induction d with
  | zero =>
    intro n xb hn h
    have : n = 3 := by omega
    subst this
    refine pk_le 3 3 (fun _ => ⟨20, xf_22 hz hV hX (fun xb' h' => H xb' (fun n hn => ?_)) 19 0 xb (by omega) (fun n hn => ?_)⟩) (fun z => absurd z (by omega))
    · have := bg_eq hV hz hn
      rw [h' n hn, this.1, this.2]
    · rw [h n hn]; rfl
  | succ d ih =>
    intro n xb hn h
    refine pk_le 3 n (fun z => absurd z (by omega)) (fun _ => ⟨vp_in_nI (by omega) (by omega), ?_⟩)
    rw [nI_clamp (show n < 2 ^ 31 by omega)]
    refine nm_e (nm_r (nI_1 n) (ih (n + 1) _ (by omega) (fun k hk => ?_)))
    by_cases e : k = n
    · subst e; exact pk_us
    · rw [pk_un e]; exact h k (by omega)
theorem x_begins {post : SX → Prop} (hV : gr_V pc L W R) (hX : gr_X a_grammar L W R) (H : ∀ xb : Nat → Int32, BR xb (itr (rnd L W R pc) 8 (fun _ => 0, fun _ => 0)) → post (nI pc, f_textLength, f_anythingBuilt, f_tokenCount, f_parseValue, f_parsePlace, a_ruleTerms, a_ruleLengths, a_skips, a_grammar, a_ranks, a_groupings, a_text, a_heads, a_tails, a_empties, a_placeLetters, a_followers, a_ruleEnds, a_sets, a_steps, a_classes, a_finerClasses, a_states, a_moves, xb, a_lookaheads, a_builtCounts, a_builtSteps, a_builtMatches, a_builtSkips, a_builtGrammar, a_builtMoves, a_builtActions, a_tokenRules, a_tokenBegins, a_tokenEnds, a_stackStates, a_stackValues)) : wpX_findBegins post (nI pc, f_textLength, f_anythingBuilt, f_tokenCount, f_parseValue, f_parsePlace, a_ruleTerms, a_ruleLengths, a_skips, a_grammar, a_ranks, a_groupings, a_text, a_heads, a_tails, a_empties, a_placeLetters, a_followers, a_ruleEnds, a_sets, a_steps, a_classes, a_finerClasses, a_states, a_moves, a_begins, a_lookaheads, a_builtCounts, a_builtSteps, a_builtMatches, a_builtSkips, a_builtGrammar, a_builtMoves, a_builtActions, a_tokenRules, a_tokenBegins, a_tokenEnds, a_stackStates, a_stackValues) :=
  ⟨4, xf_b2 hV hX H 3 0 a_begins (by omega) (fun k hk => absurd hk (Nat.not_lt_zero _))⟩
end
section
variable {g_productions : Int32} {g_start : Int64} {g_sets g_states g_conflicts g_ready g_length g_tokens g_stuck g_scanned g_value g_place : Int32} {b_term b_size b_skipped b_left b_right b_width b_op b_constant b_rank b_grouping b_bTerm b_bSize b_bSkipped b_bLeft b_bWidth b_bOp b_bConstant : Nat → Int32} {b_follow b_ends b_first b_last : Nat → Int64} {b_none : Nat → Int32} {b_set : Nat → Int64} {b_leads b_apart : Nat → Int32} {b_state : Nat → Int64} {b_to b_look b_begins b_nullable b_act b_built b_leadTo b_text b_fits b_token b_stack b_worth : Nat → Int32} {pc : Nat} {L W : Nat → Nat} {R : Nat → Nat → Nat}
theorem YR_p {yb ny : Nat → Int32} {s : (Nat → Int32) × (Nat → Int32)} {p : Nat} (hL : L p - 10 < 3) (h : YR yb ny s) : YR (upd yb (L p - 10) (yb (L p - 10) ||| (rst W R s p 0).1)) (if (rst W R s p 0).2 then upd ny (L p - 10) 1 else ny) (pstp L W R p s) := by
  intro n hn
  unfold pstp
  dsimp only
  refine ⟨?_, ?_⟩
  · by_cases e : n = L p - 10
    · subst e; rw [pk_us, pk_us, (h _ hn).1]
    · rw [pk_un e, pk_un e]; exact (h n hn).1
  · split
    · by_cases e : n = L p - 10
      · subst e; rw [pk_us, pk_us]
      · rw [pk_un e, pk_un e]; exact (h n hn).2
    · exact (h n hn).2
theorem yf_37 {post : SY → Prop} {J29 : Int32 → (Nat → Int32) → (Nat → Int32) → (Nat → Int32) → (Nat → Int32) → (Nat → Int32) → (Nat → Int32) → (Nat → Int32) → (Nat → Int32) → (Nat → Int32) → (Nat → Int32) → (Nat → Int32) → (Nat → Int32) → (Nat → Int32) → (Nat → Int32) → (Nat → Int32) → (Nat → Int32) → (Nat → Int32) → (Nat → Int64) → (Nat → Int64) → (Nat → Int64) → (Nat → Int64) → (Nat → Int32) → (Nat → Int64) → (Nat → Int32) → (Nat → Int32) → (Nat → Int64) → (Nat → Int32) → (Nat → Int32) → (Nat → Int32) → (Nat → Int32) → (Nat → Int32) → (Nat → Int32) → (Nat → Int32) → (Nat → Int32) → (Nat → Int32) → (Nat → Int32) → (Nat → Int32) → (Nat → Int32) → Prop} {k : Nat} {s : (Nat → Int32) × (Nat → Int32)} (hs : LW s) (hV : gr_V pc L W R) (hY : gr_Y b_left b_right b_width L W R) (H : ∀ yb ny : Nat → Int32, YR yb ny (rnd L W R pc s) → J29 (nI (k + 1)) b_term b_size b_skipped b_left b_right b_width b_op b_constant b_rank b_grouping b_bTerm b_bSize b_bSkipped b_bLeft b_bWidth b_bOp b_bConstant b_follow b_ends b_first b_last b_none b_set b_leads b_apart b_state b_to b_look yb ny b_act b_built b_leadTo b_text b_fits b_token b_stack b_worth) :
    ∀ d p (yb ny : Nat → Int32), p + d = pc → YR yb ny (rnd L W R p s) → wY_beginningsOf_37 post J29 (nI k) (nI pc) g_start g_sets g_states g_conflicts g_ready g_length g_tokens g_stuck g_scanned g_value g_place (d + 1) (nI p) b_term b_size b_skipped b_left b_right b_width b_op b_constant b_rank b_grouping b_bTerm b_bSize b_bSkipped b_bLeft b_bWidth b_bOp b_bConstant b_follow b_ends b_first b_last b_none b_set b_leads b_apart b_state b_to b_look yb ny b_act b_built b_leadTo b_text b_fits b_token b_stack b_worth := by
  have hpc := hV.1
  intro d
  induction d with
  | zero =>
    intro p yb ny hp h
    have : p = pc := by omega
    subst this
    exact pk_le p p (fun _ => nm_r (nI_1 k) (H yb ny h)) (fun z => absurd z (by omega))
  | succ d ih =>
    intro p yb ny hp h
    have hL := hV.2.2.1 p (by omega)
    have hls := LW_r hs hV p (by omega)
    have ih' := ih (p + 1) _ _ (by omega) (YR_p (W := W) (R := R) (show L p - 10 < 3 by omega) h)
    refine pk_le pc p (fun z => absurd z (by omega)) (fun _ => yr_b (b_begins := yb) (b_nullable := ny) (k := 0) (by omega) (by omega) hV hY h ?_)
    rw [nI_clamp (show p < 2 ^ 31 by omega), (hY p (by omega)).1, show nI (L p) - 10 = nI (L p - 10) from by rw [show (10 : Int32) = nI 10 from rfl, pk_sub (by omega)], nI_clamp (show L p - 10 < 2 ^ 31 by omega)]
    have i3 : vp_in (nI (L p - 10)) 3 := vp_in_nI (by omega) (by omega)
    have i9 : vp_in (nI p) 9 := vp_in_nI (by omega) (by omega)
    obtain ⟨m, hm, em⟩ := lo_n (rst_low (W := W) (R := R) hls hV (p := p) (k := 0))
    unfold rsv
    rw [em] at ih' ⊢
    cases hE : (rst W R (rnd L W R p s) p 0).2 with
    | false =>
      rw [hE, if_neg (show ¬ (false = true) by decide)] at ih'
      rw [if_neg (show ¬ (false = true) by decide)]
      have h15 : nI m &&& 15 = nI m := lo_15 (by rw [← em]; exact rst_low hls hV)
      rw [h15]
      exact ⟨i9, i3, i3, nm_e (br_t (nI_le (b := 31) (by omega) (by omega)) (nm_r (nI_1 p) ih'))⟩
    | true =>
      rw [hE, if_pos rfl] at ih'
      rw [if_pos rfl]
      obtain ⟨o1, o2⟩ := lo_or m hm
      rw [o2, o1]
      exact ⟨i9, i3, i3, nm_e (br_f (nI_ge (a := 31) (by omega) (by omega)) ⟨i9, i3, nm_e (nm_r (nI_1 p) ih')⟩)⟩
theorem yf_29 {post : SY → Prop} {s : (Nat → Int32) × (Nat → Int32)} (hs : LW s) (hV : gr_V pc L W R) (hY : gr_Y b_left b_right b_width L W R) (H : ∀ yb ny : Nat → Int32, YR yb ny (itr (rnd L W R pc) 8 s) → post (nI pc, g_start, g_sets, g_states, g_conflicts, g_ready, g_length, g_tokens, g_stuck, g_scanned, g_value, g_place, b_term, b_size, b_skipped, b_left, b_right, b_width, b_op, b_constant, b_rank, b_grouping, b_bTerm, b_bSize, b_bSkipped, b_bLeft, b_bWidth, b_bOp, b_bConstant, b_follow, b_ends, b_first, b_last, b_none, b_set, b_leads, b_apart, b_state, b_to, b_look, yb, ny, b_act, b_built, b_leadTo, b_text, b_fits, b_token, b_stack, b_worth)) :
    ∀ d k (yb ny : Nat → Int32), k + d = 8 → YR yb ny (itr (rnd L W R pc) k s) → wY_beginningsOf_29 post (nI pc) g_start g_sets g_states g_conflicts g_ready g_length g_tokens g_stuck g_scanned g_value g_place (d + 1) (nI k) b_term b_size b_skipped b_left b_right b_width b_op b_constant b_rank b_grouping b_bTerm b_bSize b_bSkipped b_bLeft b_bWidth b_bOp b_bConstant b_follow b_ends b_first b_last b_none b_set b_leads b_apart b_state b_to b_look yb ny b_act b_built b_leadTo b_text b_fits b_token b_stack b_worth := by
  intro d
  induction d with
  | zero =>
    intro k yb ny hk h
    have : k = 8 := by omega
    subst this
    exact pk_le 8 8 (fun _ => H yb ny h) (fun z => absurd z (by omega))
  | succ d ih =>
    intro k yb ny hk h
    refine pk_le 8 k (fun z => absurd z (by omega)) (fun _ => ⟨pc + 1, yf_37 (LW_i hs hV k) hV hY (fun yb' ny' h' => ih (k + 1) yb' ny' (by omega) h') pc 0 yb ny (by omega) h⟩)
theorem yf_2 {post : SY → Prop} (hV : gr_V pc L W R) (hY : gr_Y b_left b_right b_width L W R) (H : ∀ yb ny : Nat → Int32, YR yb ny (itr (rnd L W R pc) 8 (fun _ => 0, fun _ => 0)) → post (nI pc, g_start, g_sets, g_states, g_conflicts, g_ready, g_length, g_tokens, g_stuck, g_scanned, g_value, g_place, b_term, b_size, b_skipped, b_left, b_right, b_width, b_op, b_constant, b_rank, b_grouping, b_bTerm, b_bSize, b_bSkipped, b_bLeft, b_bWidth, b_bOp, b_bConstant, b_follow, b_ends, b_first, b_last, b_none, b_set, b_leads, b_apart, b_state, b_to, b_look, yb, ny, b_act, b_built, b_leadTo, b_text, b_fits, b_token, b_stack, b_worth)) :
    ∀ d n (yb ny : Nat → Int32), n + d = 3 → (∀ k, k < n → yb k = 0 ∧ ny k = 0) → wY_beginningsOf_2 post (nI pc) g_start g_sets g_states g_conflicts g_ready g_length g_tokens g_stuck g_scanned g_value g_place (d + 1) (nI n) b_term b_size b_skipped b_left b_right b_width b_op b_constant b_rank b_grouping b_bTerm b_bSize b_bSkipped b_bLeft b_bWidth b_bOp b_bConstant b_follow b_ends b_first b_last b_none b_set b_leads b_apart b_state b_to b_look yb ny b_act b_built b_leadTo b_text b_fits b_token b_stack b_worth := by
  have hz : LW (fun _ => 0, fun _ => 0) := fun n _ => ⟨low_0, Or.inl rfl⟩
  intro d
  induction d with
  | zero =>
    intro n yb ny hn h
    have : n = 3 := by omega
    subst this
    exact pk_le 3 3 (fun _ => ⟨9, yf_29 hz hV hY H 8 0 yb ny (by omega) h⟩) (fun z => absurd z (by omega))
  | succ d ih =>
    intro n yb ny hn h
    have i3 : vp_in (nI n) 3 := vp_in_nI (by omega) (by omega)
    refine pk_le 3 n (fun z => absurd z (by omega)) (fun _ => ⟨i3, ?_⟩)
    rw [nI_clamp (show n < 2 ^ 31 by omega)]
    refine nm_e ⟨i3, nm_e (nm_r (nI_1 n) (ih (n + 1) _ _ (by omega) (fun k hk => ?_)))⟩
    by_cases e : k = n
    · subst e; exact ⟨pk_us, pk_us⟩
    · rw [pk_un e, pk_un e]; exact h k (by omega)
theorem y_begins {post : SY → Prop} (hV : gr_V pc L W R) (hY : gr_Y b_left b_right b_width L W R) (H : ∀ yb ny : Nat → Int32, YR yb ny (itr (rnd L W R pc) 8 (fun _ => 0, fun _ => 0)) → post (nI pc, g_start, g_sets, g_states, g_conflicts, g_ready, g_length, g_tokens, g_stuck, g_scanned, g_value, g_place, b_term, b_size, b_skipped, b_left, b_right, b_width, b_op, b_constant, b_rank, b_grouping, b_bTerm, b_bSize, b_bSkipped, b_bLeft, b_bWidth, b_bOp, b_bConstant, b_follow, b_ends, b_first, b_last, b_none, b_set, b_leads, b_apart, b_state, b_to, b_look, yb, ny, b_act, b_built, b_leadTo, b_text, b_fits, b_token, b_stack, b_worth)) : wpY_beginningsOf post (nI pc, g_start, g_sets, g_states, g_conflicts, g_ready, g_length, g_tokens, g_stuck, g_scanned, g_value, g_place, b_term, b_size, b_skipped, b_left, b_right, b_width, b_op, b_constant, b_rank, b_grouping, b_bTerm, b_bSize, b_bSkipped, b_bLeft, b_bWidth, b_bOp, b_bConstant, b_follow, b_ends, b_first, b_last, b_none, b_set, b_leads, b_apart, b_state, b_to, b_look, b_begins, b_nullable, b_act, b_built, b_leadTo, b_text, b_fits, b_token, b_stack, b_worth) :=
  ⟨4, yf_2 hV hY H 3 0 b_begins b_nullable (by omega) (fun k hk => absurd hk (Nat.not_lt_zero _))⟩
end
