/-! lookaheads: the component -/
def XL (a : Nat → Int32) (la : Nat → Nat → Int32) : Prop := ∀ s i, s < 40 → i < 34 → a (34 * s + i) = la s i
theorem b2_n (g : Bool) : narrow .boolean (.int (b2 g)) = .int (b2 g) := by cases g <;> rfl
theorem XL_a {a : Nat → Int32} {la : Nat → Nat → Int32} (h : XL a la) {t i : Nat} {v : Int32} (hi : i < 34) : XL (upd a (34 * t + i) (la t i ||| v)) (adL la t i v) := by
  intro p q hp hq
  unfold adL
  by_cases e : p = t ∧ q = i
  · rw [if_pos e]; obtain ⟨rfl, rfl⟩ := e; exact pk_us
  · rw [if_neg e, pk_un (by omega)]; exact h p q hp hq
section
variable {f_productionCount f_textLength f_anythingBuilt f_tokenCount f_parseValue f_parsePlace : Int32} {a_ruleTerms a_ruleLengths a_skips a_grammar a_ranks a_groupings a_text a_heads a_tails a_empties a_placeLetters a_followers a_ruleEnds : Nat → Int32} {a_sets : Nat → Int64} {a_steps a_classes a_finerClasses : Nat → Int32} {a_states : Nat → Int64} {a_moves a_begins a_lookaheads a_builtCounts a_builtSteps a_builtMatches a_builtSkips a_builtGrammar a_builtMoves a_builtActions a_tokenRules a_tokenBegins a_tokenEnds a_stackStates a_stackValues : Nat → Int32} {pc ns : Nat} {L W : Nat → Nat} {R : Nat → Nat → Nat} {bs : (Nat → Int32) × (Nat → Int32)} {G : Nat → Int64} {M : Nat → Int32}
theorem xad {post : Int32 → SX → Prop} {t i : Nat} {v : Int32} {la : Nat → Nat → Int32} (ht : t < 40) (hi : i < 34) (hl : XL a_lookaheads la)
    (H : post (b2 (!((la t i ||| v) == la t i))) (f_productionCount, f_textLength, f_anythingBuilt, f_tokenCount, f_parseValue, f_parsePlace, a_ruleTerms, a_ruleLengths, a_skips, a_grammar, a_ranks, a_groupings, a_text, a_heads, a_tails, a_empties, a_placeLetters, a_followers, a_ruleEnds, a_sets, a_steps, a_classes, a_finerClasses, a_states, a_moves, a_begins, upd a_lookaheads (34 * t + i) (la t i ||| v), a_builtCounts, a_builtSteps, a_builtMatches, a_builtSkips, a_builtGrammar, a_builtMoves, a_builtActions, a_tokenRules, a_tokenBegins, a_tokenEnds, a_stackStates, a_stackValues)) : wpX_addLookaheads post (f_productionCount, f_textLength, f_anythingBuilt, f_tokenCount, f_parseValue, f_parsePlace, a_ruleTerms, a_ruleLengths, a_skips, a_grammar, a_ranks, a_groupings, a_text, a_heads, a_tails, a_empties, a_placeLetters, a_followers, a_ruleEnds, a_sets, a_steps, a_classes, a_finerClasses, a_states, a_moves, a_begins, a_lookaheads, a_builtCounts, a_builtSteps, a_builtMatches, a_builtSkips, a_builtGrammar, a_builtMoves, a_builtActions, a_tokenRules, a_tokenBegins, a_tokenEnds, a_stackStates, a_stackValues) (nI t) (nI i) v := by
  have ei : nI t * 34 + nI i = nI (34 * t + i) := by rw [show (34 : Int32) = nI 34 from rfl, pk_mul, nI_add]; congr 1; omega
  have ii : vp_in (nI (34 * t + i)) 1360 := vp_in_nI (by omega) (by omega)
  unfold wpX_addLookaheads
  dsimp only
  rw [ei]
  refine nm_e ?_
  rw [nI_clamp (by omega), hl t i ht hi]
  refine ⟨ii, nm_e ⟨ii, nm_e ⟨ii, ?_⟩⟩⟩
  rw [pk_us]
  refine br_c (fun e => ?_) (fun e => ?_)
  · rw [show ((la t i ||| v) == la t i) = true from by rw [e]; simp] at H; exact H
  · rw [show ((la t i ||| v) == la t i) = false from beq_eq_false_iff_ne.mpr e] at H; exact H
theorem xh_94 {post : Int32 → SX → Prop} {s x : Nat} {v : Int32} {z1 : (Nat → Nat → Int32) × Bool} (hs : s < 40) (hx : x < 13) (hV : gr_V pc L W R) (hX : gr_X a_grammar L W R)
    (H : ∀ a : Nat → Int32, XL a (fldP L s x v pc z1).1 → post (b2 (fldP L s x v pc z1).2) (nI pc, f_textLength, f_anythingBuilt, f_tokenCount, f_parseValue, f_parsePlace, a_ruleTerms, a_ruleLengths, a_skips, a_grammar, a_ranks, a_groupings, a_text, a_heads, a_tails, a_empties, a_placeLetters, a_followers, a_ruleEnds, a_sets, a_steps, a_classes, a_finerClasses, a_states, a_moves, a_begins, a, a_builtCounts, a_builtSteps, a_builtMatches, a_builtSkips, a_builtGrammar, a_builtMoves, a_builtActions, a_tokenRules, a_tokenBegins, a_tokenEnds, a_stackStates, a_stackValues)) :
    ∀ d p (a : Nat → Int32), p + d = pc → XL a (fldP L s x v p z1).1 → wX_handOn_94 post (nI s) (nI x) v (d + 1) (b2 (fldP L s x v p z1).2) (nI p) (nI pc) f_textLength f_anythingBuilt f_tokenCount f_parseValue f_parsePlace a_ruleTerms a_ruleLengths a_skips a_grammar a_ranks a_groupings a_text a_heads a_tails a_empties a_placeLetters a_followers a_ruleEnds a_sets a_steps a_classes a_finerClasses a_states a_moves a_begins a a_builtCounts a_builtSteps a_builtMatches a_builtSkips a_builtGrammar a_builtMoves a_builtActions a_tokenRules a_tokenBegins a_tokenEnds a_stackStates a_stackValues := by
  have hpc := hV.1
  intro d
  induction d with
  | zero =>
    intro p a hp h
    have : p = pc := by omega
    subst this
    exact pk_le 8 p (fun _ => ⟨b2_n _, H a h⟩) (fun _ => pk_le p p (fun _ => ⟨b2_n _, H a h⟩) (fun z => absurd z (by omega)))
  | succ d ih =>
    intro p a hp h
    have hL := (hV.2.1 p).1
    have ih' := ih (p + 1)
    rw [fldP] at ih'
    refine pk_le 8 p (fun z => absurd z (by omega)) (fun _ => pk_le pc p (fun z => absurd z (by omega)) (fun _ => ?_))
    rw [show nI p * 7 + 0 = nI (7 * p) from by rw [show (7 : Int32) = nI 7 from rfl, show (0 : Int32) = nI 0 from rfl, pk_mul, nI_add]; congr 1; omega, nI_clamp (by omega), (hX p (by omega)).1, show nI p * 4 = nI (4 * p) from by rw [show (4 : Int32) = nI 4 from rfl, pk_mul]; congr 1; omega]
    refine ⟨vp_in_nI (by omega) (by omega), pk_eq (L p) x (fun e => ?_) (fun e => ?_)⟩
    · rw [if_pos e] at ih'
      generalize fldP L s x v p z1 = z at h ih'
      refine xad (a_lookaheads := a) hs (by omega) h ?_
      dsimp only
      have ih2 := ih' (upd a (34 * s + 4 * p) (z.1 s (4 * p) ||| v)) (by omega) (XL_a h (by omega))
      unfold add_ at ih2
      dsimp only at ih2
      cases hc : ((z.1 s (4 * p) ||| v) == z.1 s (4 * p)) with
      | true =>
        rw [hc] at ih2
        simp only [Bool.not_true, Bool.or_false] at ih2
        exact br_t rfl (nm_r (nI_1 p) ih2)
      | false =>
        rw [hc] at ih2
        simp only [Bool.not_false, Bool.or_true] at ih2
        exact br_f (by decide) (nm_r (nI_1 p) ih2)
    · rw [if_neg e] at ih'
      exact nm_r (nI_1 p) (ih' a (by omega) h)
theorem xh_ {post : Int32 → SX → Prop} {s i : Nat} {la : Nat → Nat → Int32} (hH : laH pc ns L W R bs G M) (hX : gr_X a_grammar L W R) (hB : BR a_begins bs) (hM : ∀ s x, s < ns → sym x → a_moves (13 * s + x) = M (7 * s + col x)) (hs : s < ns) (hi : i < 34) (hb : bl (G s) i = true) (hl : XL a_lookaheads la)
    (H : ∀ a : Nat → Int32, XL a (hO pc L W R bs M s i la).1 → post (b2 (hO pc L W R bs M s i la).2) (nI pc, f_textLength, f_anythingBuilt, f_tokenCount, f_parseValue, f_parsePlace, a_ruleTerms, a_ruleLengths, a_skips, a_grammar, a_ranks, a_groupings, a_text, a_heads, a_tails, a_empties, a_placeLetters, a_followers, a_ruleEnds, a_sets, a_steps, a_classes, a_finerClasses, a_states, a_moves, a_begins, a, a_builtCounts, a_builtSteps, a_builtMatches, a_builtSkips, a_builtGrammar, a_builtMoves, a_builtActions, a_tokenRules, a_tokenBegins, a_tokenEnds, a_stackStates, a_stackValues)) : wpX_handOn post (nI pc, f_textLength, f_anythingBuilt, f_tokenCount, f_parseValue, f_parsePlace, a_ruleTerms, a_ruleLengths, a_skips, a_grammar, a_ranks, a_groupings, a_text, a_heads, a_tails, a_empties, a_placeLetters, a_followers, a_ruleEnds, a_sets, a_steps, a_classes, a_finerClasses, a_states, a_moves, a_begins, a_lookaheads, a_builtCounts, a_builtSteps, a_builtMatches, a_builtSkips, a_builtGrammar, a_builtMoves, a_builtActions, a_tokenRules, a_tokenBegins, a_tokenEnds, a_stackStates, a_stackValues) (nI s) (nI i) := by
  obtain ⟨hV, hbs, hns, h34, hT⟩ := hH
  unfold wpX_handOn
  dsimp only
  refine xy_ (by omega) hV hX ?_
  unfold nxt
  unfold hO at H
  by_cases c : i % 4 < W (i / 4)
  · rw [if_pos c] at H ⊢
    obtain ⟨t, ht, et⟩ := hT s i hs hi hb c
    obtain ⟨q1, q2, q3, q4, q5⟩ := i33 hV hi c
    have hsy : sym (R (i / 4) (i % 4)) := (hV.2.1 (i / 4)).2.2 _ c
    have hcn := hM s _ hs hsy
    rw [et, nI_clamp (by omega)] at H
    rw [et] at hcn
    generalize hx : R (i / 4) (i % 4) = x at H hsy hcn
    have hx13 : x < 13 := by rcases hsy with z | z <;> omega
    refine br_f (zn_ne1 (by omega)) ?_
    rw [show nI s * 34 + nI i = nI (34 * s + i) from by rw [show (34 : Int32) = nI 34 from rfl, pk_mul, nI_add]; congr 1; omega, nI_clamp (show 34 * s + i < 2 ^ 31 by omega), hl s i (by omega) hi, show nI s * 13 + nI x = nI (13 * s + x) from by rw [show (13 : Int32) = nI 13 from rfl, pk_mul, nI_add]; congr 1; omega, nI_clamp (show 13 * s + x < 2 ^ 31 by omega), hcn, nI_1 i]
    refine ⟨vp_in_nI (by omega) (by omega), nm_e ⟨vp_in_nI (by omega) (by omega), nm_e (xad (by omega) (by omega) hl ?_)⟩⟩
    dsimp only
    have hXL := XL_a hl (t := t) (i := i + 1) (v := la s i) (by omega)
    by_cases c10 : x < 10
    · rw [if_pos c10] at H
      refine xn_f (fun ⟨j, hj, e⟩ => ?_) (br_t rfl ⟨b2_n _, ?_⟩)
      · have := zn_inj (by omega) (by omega) e; omega
      · have := H _ hXL
        unfold add_ at this
        simp only [Bool.false_or] at this
        exact this
    · rw [if_neg c10] at H
      have hxs : 10 ≤ x ∧ x < 13 := by omega
      refine xn_t ⟨x, hxs, rfl⟩ (br_f (by decide) ?_)
      rw [show i + 1 = 4 * (i / 4) + (i % 4 + 1) by omega]
      refine xr_ q3 q4 hV hX hbs hB ?_
      rw [← show i + 1 = 4 * (i / 4) + (i % 4 + 1) by omega]
      have hlow := rst_low (W := W) (R := R) hbs hV (p := i / 4) (k := i % 4 + 1)
      have go : ∀ v : Int32, v = rsv (rst W R bs (i / 4) (i % 4 + 1)) (la s i) → ∃ n94 : Nat, wX_handOn_94 post (nI s) (nI x) v n94 (b2 (!((la t (i + 1) ||| la s i) == la t (i + 1)))) 0 (nI pc) f_textLength f_anythingBuilt f_tokenCount f_parseValue f_parsePlace a_ruleTerms a_ruleLengths a_skips a_grammar a_ranks a_groupings a_text a_heads a_tails a_empties a_placeLetters a_followers a_ruleEnds a_sets a_steps a_classes a_finerClasses a_states a_moves a_begins (upd a_lookaheads (34 * t + (i + 1)) (la t (i + 1) ||| la s i)) a_builtCounts a_builtSteps a_builtMatches a_builtSkips a_builtGrammar a_builtMoves a_builtActions a_tokenRules a_tokenBegins a_tokenEnds a_stackStates a_stackValues := by
        intro v ev
        subst ev
        have h0 := xh_94 (post := post) (s := s) (x := x) (v := rsv (rst W R bs (i / 4) (i % 4 + 1)) (la s i)) (z1 := add_ t (i + 1) (la s i) (la, false)) (by omega) hx13 hV hX H pc 0 _ (by omega) hXL
        have e0 : (fldP L s x (rsv (rst W R bs (i / 4) (i % 4 + 1)) (la s i)) 0 (add_ t (i + 1) (la s i) (la, false))).2 = !((la t (i + 1) ||| la s i) == la t (i + 1)) := by
          show (add_ t (i + 1) (la s i) (la, false)).2 = _
          unfold add_; simp only [Bool.false_or]
        rw [e0] at h0
        exact ⟨pc + 1, h0⟩
      unfold rsv at go ⊢
      cases hE : (rst W R bs (i / 4) (i % 4 + 1)).2 with
      | false =>
        rw [hE] at go
        rw [if_neg (show ¬ (false = true) by decide)] at go ⊢
        exact br_t (lo_c hlow) (go _ rfl)
      | true =>
        rw [hE] at go
        rw [if_pos rfl] at go ⊢
        rw [lo_b hlow]
        exact br_f lo_d (nm_e (go _ rfl))
  · rw [if_neg c] at H ⊢
    exact br_t rfl (H _ hl)
theorem xl_67 {post : SX → Prop} {J35 J51 : Int32 → Int32 → Int32 → Int32 → Int32 → Int32 → Int32 → Int32 → (Nat → Int32) → (Nat → Int32) → (Nat → Int32) → (Nat → Int32) → (Nat → Int32) → (Nat → Int32) → (Nat → Int32) → (Nat → Int32) → (Nat → Int32) → (Nat → Int32) → (Nat → Int32) → (Nat → Int32) → (Nat → Int32) → (Nat → Int64) → (Nat → Int32) → (Nat → Int32) → (Nat → Int32) → (Nat → Int64) → (Nat → Int32) → (Nat → Int32) → (Nat → Int32) → (Nat → Int32) → (Nat → Int32) → (Nat → Int32) → (Nat → Int32) → (Nat → Int32) → (Nat → Int32) → (Nat → Int32) → (Nat → Int32) → (Nat → Int32) → (Nat → Int32) → (Nat → Int32) → (Nat → Int32) → Prop} {s : Nat} {x1 x3 : Int32} {z : (Nat → Nat → Int32) × Bool} (hH : laH pc ns L W R bs G M) (hX : gr_X a_grammar L W R) (hB : BR a_begins bs) (hM : ∀ s x, s < ns → sym x → a_moves (13 * s + x) = M (7 * s + col x)) (hG : ∀ s, s < ns → a_states s = G s) (hs : s < ns)
    (H : ∀ a : Nat → Int32, XL a (rowL pc L W R bs G M s 34 z).1 → J51 (b2 (rowL pc L W R bs G M s 34 z).2) (nI (s + 1)) (nI pc) f_textLength f_anythingBuilt f_tokenCount f_parseValue f_parsePlace a_ruleTerms a_ruleLengths a_skips a_grammar a_ranks a_groupings a_text a_heads a_tails a_empties a_placeLetters a_followers a_ruleEnds a_sets a_steps a_classes a_finerClasses a_states a_moves a_begins a a_builtCounts a_builtSteps a_builtMatches a_builtSkips a_builtGrammar a_builtMoves a_builtActions a_tokenRules a_tokenBegins a_tokenEnds a_stackStates a_stackValues) :
    ∀ d i (a : Nat → Int32), i + d = 34 → XL a (rowL pc L W R bs G M s i z).1 → wX_findLookaheads_67 post J35 J51 x1 x3 (nI s) (d + 1) (b2 (rowL pc L W R bs G M s i z).2) (nI i) (nI pc) f_textLength f_anythingBuilt f_tokenCount f_parseValue f_parsePlace a_ruleTerms a_ruleLengths a_skips a_grammar a_ranks a_groupings a_text a_heads a_tails a_empties a_placeLetters a_followers a_ruleEnds a_sets a_steps a_classes a_finerClasses a_states a_moves a_begins a a_builtCounts a_builtSteps a_builtMatches a_builtSkips a_builtGrammar a_builtMoves a_builtActions a_tokenRules a_tokenBegins a_tokenEnds a_stackStates a_stackValues := by
  have hns := hH.2.2.1
  intro d
  induction d with
  | zero =>
    intro i a hi h
    have : i = 34 := by omega
    subst this
    exact pk_le 34 34 (fun _ => nm_r (nI_1 s) (H a h)) (fun z => absurd z (by omega))
  | succ d ih =>
    intro i a hi h
    have ih' := ih (i + 1)
    rw [rowL] at ih'
    refine pk_le 34 i (fun z => absurd z (by omega)) (fun _ => ⟨vp_in_nI (by omega) (by omega), ?_⟩)
    rw [nI_clamp (show s < 2 ^ 31 by omega), hG s hs]
    refine zb_b0 i (fun hb => nm_r (nI_1 i) ?_) (fun hb => ?_)
    · rw [if_neg (by rw [hb]; decide)] at ih'
      exact ih' a (by omega) h
    · rw [if_pos hb] at ih'
      generalize rowL pc L W R bs G M s i z = w at h ih'
      refine xh_ (a_lookaheads := a) hH hX hB hM hs (by omega) hb h (fun a' h' => ?_)
      dsimp only
      have ih2 := ih' a' (by omega) h'
      dsimp only at ih2
      cases hc : (hO pc L W R bs M s i w.1).2 with
      | false =>
        rw [hc, Bool.or_false] at ih2
        exact br_t rfl (nm_r (nI_1 i) ih2)
      | true =>
        rw [hc, Bool.or_true] at ih2
        exact br_f (by decide) (nm_r (nI_1 i) ih2)
theorem xl_51 {post : SX → Prop} {J35 : Int32 → Int32 → Int32 → Int32 → Int32 → Int32 → Int32 → Int32 → (Nat → Int32) → (Nat → Int32) → (Nat → Int32) → (Nat → Int32) → (Nat → Int32) → (Nat → Int32) → (Nat → Int32) → (Nat → Int32) → (Nat → Int32) → (Nat → Int32) → (Nat → Int32) → (Nat → Int32) → (Nat → Int32) → (Nat → Int64) → (Nat → Int32) → (Nat → Int32) → (Nat → Int32) → (Nat → Int64) → (Nat → Int32) → (Nat → Int32) → (Nat → Int32) → (Nat → Int32) → (Nat → Int32) → (Nat → Int32) → (Nat → Int32) → (Nat → Int32) → (Nat → Int32) → (Nat → Int32) → (Nat → Int32) → (Nat → Int32) → (Nat → Int32) → (Nat → Int32) → (Nat → Int32) → Prop} {k : Nat} {z : (Nat → Nat → Int32) × Bool} (hH : laH pc ns L W R bs G M) (hX : gr_X a_grammar L W R) (hB : BR a_begins bs) (hM : ∀ s x, s < ns → sym x → a_moves (13 * s + x) = M (7 * s + col x)) (hG : ∀ s, s < ns → a_states s = G s)
    (H : ∀ a : Nat → Int32, XL a (allL pc L W R bs G M ns z).1 → J35 (b2 (allL pc L W R bs G M ns z).2) (nI (k + 1)) (nI pc) f_textLength f_anythingBuilt f_tokenCount f_parseValue f_parsePlace a_ruleTerms a_ruleLengths a_skips a_grammar a_ranks a_groupings a_text a_heads a_tails a_empties a_placeLetters a_followers a_ruleEnds a_sets a_steps a_classes a_finerClasses a_states a_moves a_begins a a_builtCounts a_builtSteps a_builtMatches a_builtSkips a_builtGrammar a_builtMoves a_builtActions a_tokenRules a_tokenBegins a_tokenEnds a_stackStates a_stackValues) :
    ∀ d s (a : Nat → Int32), s + d = ns → XL a (allL pc L W R bs G M s z).1 → wX_findLookaheads_51 post J35 (nI ns) (nI k) (d + 1) (b2 (allL pc L W R bs G M s z).2) (nI s) (nI pc) f_textLength f_anythingBuilt f_tokenCount f_parseValue f_parsePlace a_ruleTerms a_ruleLengths a_skips a_grammar a_ranks a_groupings a_text a_heads a_tails a_empties a_placeLetters a_followers a_ruleEnds a_sets a_steps a_classes a_finerClasses a_states a_moves a_begins a a_builtCounts a_builtSteps a_builtMatches a_builtSkips a_builtGrammar a_builtMoves a_builtActions a_tokenRules a_tokenBegins a_tokenEnds a_stackStates a_stackValues := by
  have hns := hH.2.2.1
  intro d
  induction d with
  | zero =>
    intro s a hs h
    have : s = ns := by omega
    subst this
    exact pk_le 40 s (fun _ => nm_r (nI_1 k) (H a h)) (fun _ => pk_le s s (fun _ => nm_r (nI_1 k) (H a h)) (fun z => absurd z (by omega)))
  | succ d ih =>
    intro s a hs h
    refine pk_le 40 s (fun z => absurd z (by omega)) (fun _ => pk_le ns s (fun z => absurd z (by omega)) (fun _ => ⟨35, ?_⟩))
    exact xl_67 (z := allL pc L W R bs G M s z) hH hX hB hM hG (by omega) (fun a' h' => ih (s + 1) a' (by omega) h') 34 0 a (by omega) h
theorem xl_35 {post : SX → Prop} {N : Nat} (hH : laH pc ns L W R bs G M) (hX : gr_X a_grammar L W R) (hB : BR a_begins bs) (hM : ∀ s x, s < ns → sym x → a_moves (13 * s + x) = M (7 * s + col x)) (hG : ∀ s, s < ns → a_states s = G s) (hN : N ≤ 6800) (h1 : ∀ k, k < N → (allL pc L W R bs G M ns (laK pc L W R bs G M ns k, false)).2 = true) (h2 : (allL pc L W R bs G M ns (laK pc L W R bs G M ns N, false)).2 = false)
    (H : ∀ a : Nat → Int32, XL a (laK pc L W R bs G M ns (N + 1)) → post (nI pc, f_textLength, f_anythingBuilt, f_tokenCount, f_parseValue, f_parsePlace, a_ruleTerms, a_ruleLengths, a_skips, a_grammar, a_ranks, a_groupings, a_text, a_heads, a_tails, a_empties, a_placeLetters, a_followers, a_ruleEnds, a_sets, a_steps, a_classes, a_finerClasses, a_states, a_moves, a_begins, a, a_builtCounts, a_builtSteps, a_builtMatches, a_builtSkips, a_builtGrammar, a_builtMoves, a_builtActions, a_tokenRules, a_tokenBegins, a_tokenEnds, a_stackStates, a_stackValues)) :
    ∀ d k (a : Nat → Int32) (g : Bool), k + d = N + 1 → XL a (laK pc L W R bs G M ns k) → (g = true ↔ k ≤ N) → wX_findLookaheads_35 post (nI ns) (d + 1) (b2 g) (nI k) (nI pc) f_textLength f_anythingBuilt f_tokenCount f_parseValue f_parsePlace a_ruleTerms a_ruleLengths a_skips a_grammar a_ranks a_groupings a_text a_heads a_tails a_empties a_placeLetters a_followers a_ruleEnds a_sets a_steps a_classes a_finerClasses a_states a_moves a_begins a a_builtCounts a_builtSteps a_builtMatches a_builtSkips a_builtGrammar a_builtMoves a_builtActions a_tokenRules a_tokenBegins a_tokenEnds a_stackStates a_stackValues := by
  intro d
  induction d with
  | zero =>
    intro k a g hk h hg
    have : k = N + 1 := by omega
    subst this
    have g0 : g = false := by
      cases g with
      | false => rfl
      | true => have := hg.mp rfl; omega
    subst g0
    exact br_c (fun _ => H a h) (fun _ => br_t rfl (H a h))
  | succ d ih =>
    intro k a g hk h hg
    have g1 : g = true := hg.mpr (by omega)
    subst g1
    refine br_f (nI_ge (b := 6801) (by omega) (by omega)) (br_f (by decide) ⟨ns + 1, ?_⟩)
    refine xl_51 (z := (laK pc L W R bs G M ns k, false)) hH hX hB hM hG (fun a' h' => ih (k + 1) a' _ (by omega) h' ⟨fun e => ?_, fun e => h1 k (by omega)⟩) ns 0 a (by omega) h
    rcases Nat.lt_or_ge k N with c | c
    · omega
    · have : k = N := by omega
      subst this
      rw [h2] at e; exact absurd e (by decide)
theorem xlk_2 {post : SX → Prop} {N : Nat} (hH : laH pc ns L W R bs G M) (hX : gr_X a_grammar L W R) (hB : BR a_begins bs) (hM : ∀ s x, s < ns → sym x → a_moves (13 * s + x) = M (7 * s + col x)) (hG : ∀ s, s < ns → a_states s = G s) (hN : N ≤ 6800) (h1 : ∀ k, k < N → (allL pc L W R bs G M ns (laK pc L W R bs G M ns k, false)).2 = true) (h2 : (allL pc L W R bs G M ns (laK pc L W R bs G M ns N, false)).2 = false)
    (H : ∀ a : Nat → Int32, XL a (laK pc L W R bs G M ns (N + 1)) → post (nI pc, f_textLength, f_anythingBuilt, f_tokenCount, f_parseValue, f_parsePlace, a_ruleTerms, a_ruleLengths, a_skips, a_grammar, a_ranks, a_groupings, a_text, a_heads, a_tails, a_empties, a_placeLetters, a_followers, a_ruleEnds, a_sets, a_steps, a_classes, a_finerClasses, a_states, a_moves, a_begins, a, a_builtCounts, a_builtSteps, a_builtMatches, a_builtSkips, a_builtGrammar, a_builtMoves, a_builtActions, a_tokenRules, a_tokenBegins, a_tokenEnds, a_stackStates, a_stackValues)) :
    ∀ d c (a : Nat → Int32), c + d = 1360 → (∀ k, k < c → a k = 0) → wX_findLookaheads_2 post (nI ns) (nI pc) f_textLength f_anythingBuilt f_tokenCount f_parseValue f_parsePlace (d + 1) (nI c) a_ruleTerms a_ruleLengths a_skips a_grammar a_ranks a_groupings a_text a_heads a_tails a_empties a_placeLetters a_followers a_ruleEnds a_sets a_steps a_classes a_finerClasses a_states a_moves a_begins a a_builtCounts a_builtSteps a_builtMatches a_builtSkips a_builtGrammar a_builtMoves a_builtActions a_tokenRules a_tokenBegins a_tokenEnds a_stackStates a_stackValues := by
  intro d
  induction d with
  | zero =>
    intro c a hc h
    have : c = 1360 := by omega
    subst this
    refine pk_le 1360 1360 (fun _ => nm_e ⟨N + 1 + 1, xl_35 hH hX hB hM hG hN h1 h2 H (N + 1) 0 _ true (by omega) (fun s i hs hi => ?_) ⟨fun _ => by omega, fun _ => rfl⟩⟩) (fun z => absurd z (by omega))
    unfold laK
    by_cases e : s = 0 ∧ i = 32
    · rw [if_pos e]; obtain ⟨rfl, rfl⟩ := e; exact pk_us
    · rw [if_neg e, pk_un (by omega)]; exact h _ (by omega)
  | succ d ih =>
    intro c a hc h
    refine pk_le 1360 c (fun z => absurd z (by omega)) (fun _ => ⟨vp_in_nI (by omega) (by omega), ?_⟩)
    rw [nI_clamp (show c < 2 ^ 31 by omega)]
    refine nm_e (nm_r (nI_1 c) (ih (c + 1) _ (by omega) (fun k hk => ?_)))
    by_cases e : k = c
    · subst e; exact pk_us
    · rw [pk_un e]; exact h k (by omega)
theorem x_look {post : SX → Prop} {N : Nat} (hH : laH pc ns L W R bs G M) (hX : gr_X a_grammar L W R) (hB : BR a_begins bs) (hM : ∀ s x, s < ns → sym x → a_moves (13 * s + x) = M (7 * s + col x)) (hG : ∀ s, s < ns → a_states s = G s) (hN : N ≤ 6800) (h1 : ∀ k, k < N → (allL pc L W R bs G M ns (laK pc L W R bs G M ns k, false)).2 = true) (h2 : (allL pc L W R bs G M ns (laK pc L W R bs G M ns N, false)).2 = false)
    (H : ∀ a : Nat → Int32, XL a (laK pc L W R bs G M ns (N + 1)) → post (nI pc, f_textLength, f_anythingBuilt, f_tokenCount, f_parseValue, f_parsePlace, a_ruleTerms, a_ruleLengths, a_skips, a_grammar, a_ranks, a_groupings, a_text, a_heads, a_tails, a_empties, a_placeLetters, a_followers, a_ruleEnds, a_sets, a_steps, a_classes, a_finerClasses, a_states, a_moves, a_begins, a, a_builtCounts, a_builtSteps, a_builtMatches, a_builtSkips, a_builtGrammar, a_builtMoves, a_builtActions, a_tokenRules, a_tokenBegins, a_tokenEnds, a_stackStates, a_stackValues)) : wpX_findLookaheads post (nI pc, f_textLength, f_anythingBuilt, f_tokenCount, f_parseValue, f_parsePlace, a_ruleTerms, a_ruleLengths, a_skips, a_grammar, a_ranks, a_groupings, a_text, a_heads, a_tails, a_empties, a_placeLetters, a_followers, a_ruleEnds, a_sets, a_steps, a_classes, a_finerClasses, a_states, a_moves, a_begins, a_lookaheads, a_builtCounts, a_builtSteps, a_builtMatches, a_builtSkips, a_builtGrammar, a_builtMoves, a_builtActions, a_tokenRules, a_tokenBegins, a_tokenEnds, a_stackStates, a_stackValues) (nI ns) :=
  ⟨1361, xlk_2 hH hX hB hM hG hN h1 h2 H 1360 0 a_lookaheads (by omega) (fun k hk => absurd hk (Nat.not_lt_zero _))⟩
end
