/-! the relation of the two states, and what it is made of -/
def nv (a : Nat → Int32) : Nat → Nat := fun k => (a k).toNatClampNeg
/-- rule terms and rule lengths are within -/
def ru_ok (tm sz : Nat → Int32) : Prop := (∀ k, ∃ t, t < 10 ∧ tm k = nI t) ∧ (∀ r, ∃ n, n ≤ 8 ∧ sz r = nI n)
/-- a grammar: pc productions, left sides, widths, right sides; production 8 is the beginning's -/
def gr_V (pc : Nat) (L W : Nat → Nat) (R : Nat → Nat → Nat) : Prop :=
  pc ≤ 8 ∧ (∀ p, L p ≤ 13 ∧ W p ≤ 3 ∧ ∀ k, k < W p → R p k < 4 ∨ (10 ≤ R p k ∧ R p k < 13)) ∧ (∀ p, p < pc → 10 ≤ L p ∧ L p < 13) ∧ L 8 = 13 ∧ W 8 = 1 ∧ R 8 0 = 10
def gr_X (g : Nat → Int32) (L W : Nat → Nat) (R : Nat → Nat → Nat) : Prop :=
  ∀ p, p < 9 → g (7 * p) = nI (L p) ∧ g (7 * p + 1) = nI (W p) ∧ ∀ k, k < W p → g (7 * p + 2 + k) = nI (R p k)
def gr_Y (le ri wi : Nat → Int32) (L W : Nat → Nat) (R : Nat → Nat → Nat) : Prop :=
  ∀ p, p < 9 → le p = nI (L p) ∧ wi p = nI (W p) ∧ ∀ k, k < W p → ri (3 * p + k) = nI (R p k)
def gr_O (g op co : Nat → Int32) : Prop := ∀ p, p < 8 → g (7 * p + 5) = op p ∧ g (7 * p + 6) = co p ∧ ∃ o, o < 4 ∧ op p = nI o
def rg (cx cy : Int32) (g le ri wi op co : Nat → Int32) : Prop :=
  ∃ pc L W R, cx = nI pc ∧ cy = nI pc ∧ gr_V pc L W R ∧ gr_X g L W R ∧ gr_Y le ri wi L W R ∧ gr_O g op co
def rt (lx ly : Int32) (tx : Nat → Int32) : Prop := ∃ n, n ≤ 20 ∧ lx = nI n ∧ ly = nI n ∧ ∀ k, ∃ l, l < 4 ∧ tx k = nI l
/-- how many expressions a term takes; the depth behind k terms; well formed -/
def tk (t : Nat) : Nat := if t < 5 then 0 else if t < 7 then 2 else 1
def dp (tm : Nat → Nat) (b : Nat) : Nat → Nat
  | 0 => 0
  | k + 1 => dp tm b k + 1 - tk (tm (b + k))
def wf_ (tm : Nat → Nat) (b n : Nat) : Prop := (∀ k, k < n → tk (tm (b + k)) ≤ dp tm b k) ∧ (n = 0 ∨ dp tm b n = 1)
/-- a chain of parts that are not empty -/
def pl_ (A : Nat → Nat → Prop) : Nat → Nat → Nat → Prop
  | 0, _, _ => False
  | n + 1, i, j => ∃ m, i < m ∧ m ≤ j ∧ A i m ∧ (m = j ∨ pl_ A n m j)
def pl (A : Nat → Nat → Prop) (i j : Nat) : Prop := ∃ n, pl_ A n i j
def us (s : Nat → Nat → Nat → Prop) (d : Nat) (A : Nat → Nat → Prop) : Nat → Nat → Nat → Prop := fun e => if e = d then A else s e
/-- what one term makes of a stack of sets of parts of the text -/
def sm (tl : Nat → Nat) (t d : Nat) (s : Nat → Nat → Nat → Prop) : Nat → Nat → Nat → Prop :=
  if t < 5 then us s d (fun i j => j = i + 1 ∧ (t = 4 ∨ tl i = t))
  else if t = 5 then us s (d - 2) (fun i j => ∃ m, i ≤ m ∧ m ≤ j ∧ s (d - 2) i m ∧ s (d - 1) m j)
  else if t = 6 then us s (d - 2) (fun i j => s (d - 2) i j ∨ s (d - 1) i j)
  else if t = 7 then us s (d - 1) (fun i j => i = j ∨ pl (s (d - 1)) i j)
  else if t = 8 then us s (d - 1) (fun i j => s (d - 1) i j ∨ pl (s (d - 1)) i j)
  else us s (d - 1) (fun i j => i = j ∨ s (d - 1) i j)
def ev (tl tm : Nat → Nat) (b : Nat) : Nat → Nat → Nat → Nat → Prop
  | 0 => fun _ _ _ => False
  | k + 1 => sm tl (tm (b + k)) (dp tm b k) (ev tl tm b k)
/-- rule r stands for the part of the text from i to j -/
def lg (tl tm sz : Nat → Nat) (r i j : Nat) : Prop := 0 < sz r ∧ ev tl tm (8 * r) (sz r) 0 i j
/-- the automaton's state behind m letters from place a on -/
def dr (st : Nat → Int32) (tl : Nat → Nat) (a : Nat) : Nat → Int32
  | 0 => 0
  | m + 1 => if dr st tl a m = -1 then -1 else st (4 * (dr st tl a m).toNatClampNeg + tl (a + m))
def sc_v (st ma : Nat → Int32) (tl : Nat → Nat) (a m : Nat) : Int32 := if dr st tl a m = -1 then -1 else ma (dr st tl a m).toNatClampNeg
def sc_m (st ma : Nat → Int32) (tl tm sz : Nat → Nat) (a m : Nat) : Prop :=
  (sc_v st ma tl a (m + 1) = -1 ∧ ∀ r, r < 4 → ¬ lg tl tm sz r a (a + m + 1)) ∨
  ∃ r, r < 4 ∧ sc_v st ma tl a (m + 1) = nI r ∧ lg tl tm sz r a (a + m + 1) ∧ ∀ q, q < r → ¬ lg tl tm sz q a (a + m + 1)
def sc_ok (st ma bT bS : Nat → Int32) : Prop :=
  ru_ok bT bS ∧ (∀ r, r < 4 → wf_ (nv bT) (8 * r) (nv bS r)) ∧ ∃ c, 0 < c ∧ c ≤ 61 ∧
  (∀ s l, s < c → l < 4 → st (4 * s + l) = -1 ∨ ∃ q, q < c ∧ st (4 * s + l) = nI q) ∧
  (∀ s, s < c → ma s = -1 ∨ ∃ r, r < 4 ∧ ma s = nI r) ∧
  ∀ tl : Nat → Nat, (∀ i, tl i < 4) → ∀ a m, sc_m st ma tl (nv bT) (nv bS) a m
def col (x : Nat) : Nat := if x < 4 then x else x - 6
def sym (x : Nat) : Prop := x < 4 ∨ (10 ≤ x ∧ x < 13)
def ac_ok (S : Nat → Nat → Bool) (W : Nat → Nat) (mv : Nat → Int32) (s t : Nat) (a y : Int32) : Prop :=
  (a = -1 ∧ y = 0) ∨ (a = 8 ∧ y = 1 ∧ S s 33 = true) ∨ (a = 9 ∧ t < 4 ∧ ∃ q, q < 40 ∧ mv (13 * s + t) = nI q ∧ y = nI (2 + q)) ∨
  ∃ p, p < 8 ∧ a = nI p ∧ y = nI (100 + p) ∧ S s (4 * p + W p) = true
def pa_ok (bg mv ac le wi op co lt yc : Nat → Int32) : Prop :=
  ∃ (ns : Nat) (S : Nat → Nat → Bool) (L W : Nat → Nat), 0 < ns ∧ ns ≤ 40 ∧ (∀ p, W p ≤ 3 ∧ L p ≤ 13) ∧
  (∀ p, p < 8 → bg (7 * p) = nI (L p) ∧ bg (7 * p + 1) = nI (W p) ∧ le p = nI (L p) ∧ wi p = nI (W p) ∧ bg (7 * p + 5) = op p ∧ bg (7 * p + 6) = co p ∧ ∃ o, o < 4 ∧ op p = nI o) ∧
  (∀ s x, s < ns → sym x → (mv (13 * s + x) = -1 ∧ lt (7 * s + col x) = -1) ∨ ∃ t, 0 < t ∧ t < ns ∧ mv (13 * s + x) = nI t ∧ lt (7 * s + col x) = nI t ∧ ∀ j, S t j = true → j % 4 ≠ 0 → S s (j - 1) = true) ∧
  (∀ s p, s < ns → p < 8 → S s (4 * p) = true → (10 ≤ L p ∧ L p < 13) ∧ ¬ mv (13 * s + L p) = -1) ∧
  (∀ j, S 0 j = true → j % 4 = 0) ∧ (∀ s, s < ns → S s 32 = true → s = 0) ∧
  (∀ s t, s < ns → t < 5 → ac_ok S W mv s t (ac (5 * s + t)) (yc (5 * s + t)))
/-- the longest match from a place on, by the automaton: its end and its rule -/
def mu (st ma : Nat → Int32) (tl : Nat → Nat) : Nat → Nat → Nat → Nat × Int32 → Nat × Int32
  | 0, _, _, e => e
  | d + 1, i, s, e => if st (4 * s + tl i) = -1 then e else
      mu st ma tl d (i + 1) (st (4 * s + tl i)).toNatClampNeg (if ma (st (4 * s + tl i)).toNatClampNeg = -1 then e else (i + 1, ma (st (4 * s + tl i)).toNatClampNeg))
def mx (st ma : Nat → Int32) (tl : Nat → Nat) (n a : Nat) : Nat × Int32 := mu st ma tl (n - a) a 0 (a, -1)
/-- the cut: place, number of tokens, their rules, beginnings and ends -/
def ct (st ma sk : Nat → Int32) (tl : Nat → Nat) (n : Nat) : Nat → Nat × Nat × (Nat → Int32) × (Nat → Int32) × (Nat → Int32) → Nat × Nat × (Nat → Int32) × (Nat → Int32) × (Nat → Int32)
  | 0, z => z
  | d + 1, (a, c, p, b, e) => if n ≤ a then (a, c, p, b, e) else if (mx st ma tl n a).2 = -1 then (a, c, p, b, e)
      else if sk (mx st ma tl n a).2.toNatClampNeg = 0 then ct st ma sk tl n d ((mx st ma tl n a).1, c + 1, upd p c (mx st ma tl n a).2, upd b c (nI a), upd e c (nI (mx st ma tl n a).1))
      else ct st ma sk tl n d ((mx st ma tl n a).1, c, p, b, e)
def cz (st ma sk : Nat → Int32) (tl : Nat → Nat) (n : Nat) : Nat × Nat × (Nat → Int32) × (Nat → Int32) × (Nat → Int32) := ct st ma sk tl n 20 (0, 0, fun _ => 0, fun _ => 0, fun _ => 0)
def tk_ok (z : Nat × Nat × (Nat → Int32) × (Nat → Int32) × (Nat → Int32)) (n : Nat) (to su : Int32) (tk : Nat → Int32) : Prop :=
  to = nI z.2.1 ∧ (z.1 < n → su = nI z.1) ∧ (n ≤ z.1 → su = -1) ∧ ∀ k, k < z.2.1 → tk (3 * k) = z.2.2.1 k ∧ tk (3 * k + 1) = z.2.2.2.1 k ∧ tk (3 * k + 2) = z.2.2.2.2 k
def rb (bx ry sd : Int32) (cx cy bs bSk st ma bT bS bg mv ac le wi op co lt yc tx : Nat → Int32) (lx to su : Int32) (tk : Nat → Int32) : Prop :=
  (bx = 0 ∧ ry = 0) ∨ (bx = 1 ∧ ry = 1 ∧ (∀ r, r < 4 → cx r = cy r) ∧ (∀ r, r < 4 → bSk r = bs r) ∧ sc_ok st ma bT bS ∧ pa_ok bg mv ac le wi op co lt yc ∧
    (sd = 0 ∨ tk_ok (cz st ma bs (nv tx) lx.toNatClampNeg) lx.toNatClampNeg to su tk))
/-- the relation at the head of a turn -/
def i_Rel (k : Nat) (u : SX) (v : SY) : Prop := match u with
  | (f_productionCount, f_textLength, f_anythingBuilt, f_tokenCount, f_parseValue, f_parsePlace, a_ruleTerms, a_ruleLengths, a_skips, a_grammar, a_ranks, a_groupings, a_text, a_heads, a_tails, a_empties, a_placeLetters, a_followers, a_ruleEnds, a_sets, a_steps, a_classes, a_finerClasses, a_states, a_moves, a_begins, a_lookaheads, a_builtCounts, a_builtSteps, a_builtMatches, a_builtSkips, a_builtGrammar, a_builtMoves, a_builtActions, a_tokenRules, a_tokenBegins, a_tokenEnds, a_stackStates, a_stackValues) => match v with
    | (g_productions, g_start, g_sets, g_states, g_conflicts, g_ready, g_length, g_tokens, g_stuck, g_scanned, g_value, g_place, b_term, b_size, b_skipped, b_left, b_right, b_width, b_op, b_constant, b_rank, b_grouping, b_bTerm, b_bSize, b_bSkipped, b_bLeft, b_bWidth, b_bOp, b_bConstant, b_follow, b_ends, b_first, b_last, b_none, b_set, b_leads, b_apart, b_state, b_to, b_look, b_begins, b_nullable, b_act, b_built, b_leadTo, b_text, b_fits, b_token, b_stack, b_worth) => a_ruleTerms = b_term ∧ a_ruleLengths = b_size ∧ a_skips = b_skipped ∧ a_ranks = b_rank ∧ a_groupings = b_grouping ∧ a_text = b_text ∧ f_parseValue = g_value ∧ f_parsePlace = g_place ∧
      (ru_ok a_ruleTerms a_ruleLengths ∧ ru_ok b_bTerm b_bSize) ∧ rg f_productionCount g_productions a_grammar b_left b_right b_width b_op b_constant ∧ rt f_textLength g_length a_text ∧
      rb f_anythingBuilt g_ready g_scanned a_builtCounts b_built a_builtSkips b_bSkipped a_builtSteps a_builtMatches b_bTerm b_bSize a_builtGrammar a_builtMoves a_builtActions b_bLeft b_bWidth b_bOp b_bConstant b_leadTo b_act a_text f_textLength g_tokens g_stuck b_token
theorem i_up {k : Nat} {u : SX} {v : SY} (h : i_Rel k u v) : i_Rel (k + 5) u v := h
section
variable {f_productionCount f_textLength f_anythingBuilt f_tokenCount f_parseValue f_parsePlace : Int32} {a_ruleTerms a_ruleLengths a_skips a_grammar a_ranks a_groupings a_text a_heads a_tails a_empties a_placeLetters a_followers a_ruleEnds : Nat → Int32} {a_sets : Nat → Int64} {a_steps a_classes a_finerClasses : Nat → Int32} {a_states : Nat → Int64} {a_moves a_begins a_lookaheads a_builtCounts a_builtSteps a_builtMatches a_builtSkips a_builtGrammar a_builtMoves a_builtActions a_tokenRules a_tokenBegins a_tokenEnds a_stackStates a_stackValues : Nat → Int32} {g_productions : Int32} {g_start : Int64} {g_sets g_states g_conflicts g_ready g_length g_tokens g_stuck g_scanned g_value g_place : Int32} {b_term b_size b_skipped b_left b_right b_width b_op b_constant b_rank b_grouping b_bTerm b_bSize b_bSkipped b_bLeft b_bWidth b_bOp b_bConstant : Nat → Int32} {b_follow b_ends b_first b_last : Nat → Int64} {b_none : Nat → Int32} {b_set : Nat → Int64} {b_leads b_apart : Nat → Int32} {b_state : Nat → Int64} {b_to b_look b_begins b_nullable b_act b_built b_leadTo b_text b_fits b_token b_stack b_worth : Nat → Int32} {k : Nat}
theorem rl_mk (e1 : a_ruleTerms = b_term) (e2 : a_ruleLengths = b_size) (e3 : a_skips = b_skipped) (e4 : a_ranks = b_rank) (e5 : a_groupings = b_grouping) (e6 : a_text = b_text) (e7 : f_parseValue = g_value) (e8 : f_parsePlace = g_place)
    (h1 : ru_ok a_ruleTerms a_ruleLengths ∧ ru_ok b_bTerm b_bSize) (h2 : rg f_productionCount g_productions a_grammar b_left b_right b_width b_op b_constant) (h3 : rt f_textLength g_length a_text)
    (h4 : rb f_anythingBuilt g_ready g_scanned a_builtCounts b_built a_builtSkips b_bSkipped a_builtSteps a_builtMatches b_bTerm b_bSize a_builtGrammar a_builtMoves a_builtActions b_bLeft b_bWidth b_bOp b_bConstant b_leadTo b_act a_text f_textLength g_tokens g_stuck b_token) :
    i_Rel k (f_productionCount, f_textLength, f_anythingBuilt, f_tokenCount, f_parseValue, f_parsePlace, a_ruleTerms, a_ruleLengths, a_skips, a_grammar, a_ranks, a_groupings, a_text, a_heads, a_tails, a_empties, a_placeLetters, a_followers, a_ruleEnds, a_sets, a_steps, a_classes, a_finerClasses, a_states, a_moves, a_begins, a_lookaheads, a_builtCounts, a_builtSteps, a_builtMatches, a_builtSkips, a_builtGrammar, a_builtMoves, a_builtActions, a_tokenRules, a_tokenBegins, a_tokenEnds, a_stackStates, a_stackValues) (g_productions, g_start, g_sets, g_states, g_conflicts, g_ready, g_length, g_tokens, g_stuck, g_scanned, g_value, g_place, b_term, b_size, b_skipped, b_left, b_right, b_width, b_op, b_constant, b_rank, b_grouping, b_bTerm, b_bSize, b_bSkipped, b_bLeft, b_bWidth, b_bOp, b_bConstant, b_follow, b_ends, b_first, b_last, b_none, b_set, b_leads, b_apart, b_state, b_to, b_look, b_begins, b_nullable, b_act, b_built, b_leadTo, b_text, b_fits, b_token, b_stack, b_worth) := ⟨e1, e2, e3, e4, e5, e6, e7, e8, h1, h2, h3, h4⟩
end
/-! small methods' helpers -/
theorem ib_f {post : Int32 → Prop} {a b : Int32} (h : a < 0 ∨ b ≤ a) (hp : post 0) : wpX_isBelow post a b := by
  by_cases h0 : a < 0
  · exact br_t h0 hp
  · exact br_f h0 (br_t (h.resolve_left h0) hp)
theorem ib_t {post : Int32 → Prop} {a b : Int32} (j n : Nat) (hj : j < n) (hp : post 1) (ha : a = nI j := by rfl) (hb : b = nI n := by rfl) (hn : n < 2 ^ 31 := by omega) : wpX_isBelow post a b := by
  subst ha hb
  exact br_f (nI_pos (by omega)) (br_f (nI_ge hj hn) hp)
theorem am_f {post : Int32 → Prop} {v : SY} {a b : Int32} (h : a < 0 ∨ b ≤ a) (hp : post 0) : wpY_among post v a b := by
  obtain ⟨g_productions, g_start, g_sets, g_states, g_conflicts, g_ready, g_length, g_tokens, g_stuck, g_scanned, g_value, g_place, b_term, b_size, b_skipped, b_left, b_right, b_width, b_op, b_constant, b_rank, b_grouping, b_bTerm, b_bSize, b_bSkipped, b_bLeft, b_bWidth, b_bOp, b_bConstant, b_follow, b_ends, b_first, b_last, b_none, b_set, b_leads, b_apart, b_state, b_to, b_look, b_begins, b_nullable, b_act, b_built, b_leadTo, b_text, b_fits, b_token, b_stack, b_worth⟩ := v
  by_cases h0 : a < 0
  · exact br_t h0 hp
  · exact br_f h0 (br_t (h.resolve_left h0) hp)
theorem am_t {post : Int32 → Prop} {v : SY} {a b : Int32} (j n : Nat) (hj : j < n) (hp : post 1) (ha : a = nI j := by rfl) (hb : b = nI n := by rfl) (hn : n < 2 ^ 31 := by omega) : wpY_among post v a b := by
  obtain ⟨g_productions, g_start, g_sets, g_states, g_conflicts, g_ready, g_length, g_tokens, g_stuck, g_scanned, g_value, g_place, b_term, b_size, b_skipped, b_left, b_right, b_width, b_op, b_constant, b_rank, b_grouping, b_bTerm, b_bSize, b_bSkipped, b_bLeft, b_bWidth, b_bOp, b_bConstant, b_follow, b_ends, b_first, b_last, b_none, b_set, b_leads, b_apart, b_state, b_to, b_look, b_begins, b_nullable, b_act, b_built, b_leadTo, b_text, b_fits, b_token, b_stack, b_worth⟩ := v
  subst ha hb
  exact br_f (nI_pos (by omega)) (br_f (nI_ge hj hn) hp)
