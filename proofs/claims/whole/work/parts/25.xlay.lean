/-! the component's places: numbered one after the other -/
def lcB (tm sz : Nat → Nat) (q : Nat) : Bool := decide (q < 32) && (decide (q % 8 < sz (q / 8)) && decide (tm q < 5))
def lcn (tm sz : Nat → Nat) : Nat → Nat
  | 0 => 0
  | q + 1 => lcn tm sz q + (if lcB tm sz q then 1 else 0)
theorem lcn_m {tm sz : Nat → Nat} (q : Nat) : ∀ x, lcn tm sz q ≤ lcn tm sz (q + x)
  | 0 => Nat.le_refl _
  | x + 1 => Nat.le_trans (lcn_m q x) (Nat.le_add_right _ _)
theorem lcn_lt {tm sz : Nat → Nat} {q q' : Nat} (h : lcB tm sz q = true) (hq : q < q') : lcn tm sz q < lcn tm sz q' := by
  have h1 : lcn tm sz (q + 1) = lcn tm sz q + 1 := by show _ + (if _ then 1 else 0) = _; rw [if_pos h]
  have h2 := lcn_m (tm := tm) (sz := sz) (q + 1) (q' - (q + 1))
  rw [show q + 1 + (q' - (q + 1)) = q' by omega] at h2
  omega
theorem lcn_inj {tm sz : Nat → Nat} {q q' : Nat} (h : lcB tm sz q = true) (h' : lcB tm sz q' = true) (e : lcn tm sz q = lcn tm sz q') : q = q' := by
  rcases Nat.lt_trichotomy q q' with z | z | z
  · have := lcn_lt h z; omega
  · exact z
  · have := lcn_lt h' z; omega
theorem lcn_on {tm sz : Nat → Nat} : ∀ N p, p < lcn tm sz N → ∃ q, q < N ∧ lcB tm sz q = true ∧ lcn tm sz q = p
  | 0, p, h => absurd h (Nat.not_lt_zero _)
  | N + 1, p, h => by
    by_cases z : p < lcn tm sz N
    · obtain ⟨q, a, b⟩ := lcn_on N p z
      exact ⟨q, by omega, b⟩
    · have h' : p < lcn tm sz N + (if lcB tm sz N then 1 else 0) := h
      by_cases y : lcB tm sz N = true
      · rw [if_pos y] at h'
        exact ⟨N, by omega, y, by omega⟩
      · rw [if_neg y] at h'; omega
theorem lcn_2 {tm sz : Nat → Nat} {r : Nat} (h8 : sz r ≤ 8) (hw : ∀ k, k < sz r → tk (tm (8 * r + k)) ≤ dp tm (8 * r) k) : ∀ k, k ≤ sz r → 2 * lcn tm sz (8 * r + k) ≤ 2 * lcn tm sz (8 * r) + k + dp tm (8 * r) k
  | 0, _ => by show 2 * lcn tm sz (8 * r) ≤ _; omega
  | k + 1, hk => by
    have ih := lcn_2 h8 hw k (by omega)
    have h1 : lcn tm sz (8 * r + k + 1) = lcn tm sz (8 * r + k) + (if lcB tm sz (8 * r + k) then 1 else 0) := rfl
    have h2 : dp tm (8 * r) (k + 1) = dp tm (8 * r) k + 1 - tk (tm (8 * r + k)) := rfl
    have h3 := hw k (by omega)
    have h4 := tk_c (tm (8 * r + k))
    have h5 := tk_2 (tm (8 * r + k))
    rw [← Nat.add_assoc, h1]
    by_cases z : lcB tm sz (8 * r + k) = true
    · rw [if_pos z]
      have : tm (8 * r + k) < 5 := by unfold lcB at z; simp at z; exact z.2.2
      have := h4.1 this
      omega
    · rw [if_neg z]; omega
theorem lcn_e {tm sz : Nat → Nat} {r : Nat} (h8 : sz r ≤ 8) : ∀ x, sz r + x ≤ 8 → lcn tm sz (8 * r + (sz r + x)) = lcn tm sz (8 * r + sz r)
  | 0, _ => rfl
  | x + 1, hx => by
    have h1 : lcn tm sz (8 * r + (sz r + x) + 1) = lcn tm sz (8 * r + (sz r + x)) + (if lcB tm sz (8 * r + (sz r + x)) then 1 else 0) := rfl
    have h2 : lcB tm sz (8 * r + (sz r + x)) = false := by
      unfold lcB
      rw [show (8 * r + (sz r + x)) / 8 = r by omega, show (8 * r + (sz r + x)) % 8 = sz r + x by omega, decide_eq_false (show ¬ sz r + x < sz r by omega)]
      simp
    rw [show 8 * r + (sz r + (x + 1)) = 8 * r + (sz r + x) + 1 by omega, h1, h2, lcn_e h8 x (by omega)]
    rfl
theorem lcn_4 {tm sz : Nat → Nat} (h : rwf tm sz) : ∀ r, r ≤ 4 → lcn tm sz (8 * r) ≤ 4 * r
  | 0, _ => Nat.le_refl _
  | r + 1, hr => by
    have ih := lcn_4 h r (by omega)
    have h8 := h.2.1 r
    have h1 := lcn_2 h8 (h.2.2 r (by omega)).1 (sz r) (Nat.le_refl _)
    have h2 := lcn_e (tm := tm) h8 (8 - sz r) (by omega)
    rw [show sz r + (8 - sz r) = 8 by omega, show 8 * r + 8 = 8 * (r + 1) by omega] at h2
    rcases (h.2.2 r (by omega)).2 with z | z
    · rw [z] at h2; rw [h2]
      show lcn tm sz (8 * r) ≤ _
      omega
    · rw [z] at h1; omega
theorem lcn_16 {tm sz : Nat → Nat} (h : rwf tm sz) {r k : Nat} (hr : r < 4) (hk : k ≤ sz r) : lcn tm sz (8 * r + k) ≤ 4 * r + 4 := by
  have h8 := h.2.1 r
  have h0 := lcn_4 h r (by omega)
  have h1 := lcn_2 h8 (h.2.2 r hr).1 k hk
  have h2 := dp_dn (h.2.2 r hr).1 (sz r - k) k (by omega)
  rcases (h.2.2 r hr).2 with z | z
  · have : k = 0 := by omega
    subst this
    show lcn tm sz (8 * r) ≤ _
    omega
  · rw [z] at h2; omega
/-- bits of a set of places, against the set of cells -/
def rpB (lc : Nat → Bool) (cn : Nat → Nat) (us : Nat) (x : Int32) (F : Nat → Bool) : Prop := (∀ q, lc q = true → bt x (cn q) = F q) ∧ ∀ p, us ≤ p → bt x p = false
theorem rp_or {lc : Nat → Bool} {cn : Nat → Nat} {us : Nat} {x y : Int32} {F G : Nat → Bool} (h : rpB lc cn us x F) (g : rpB lc cn us y G) : rpB lc cn us (x ||| y) (fun q => F q || G q) :=
  ⟨fun q hq => by rw [b_or, h.1 q hq, g.1 q hq], fun p hp => by rw [b_or, h.2 p hp, g.2 p hp]; rfl⟩
theorem rp_us {lc : Nat → Bool} {cn : Nat → Nat} {us us' : Nat} {x : Int32} {F : Nat → Bool} (h : rpB lc cn us x F) (hu : us ≤ us') : rpB lc cn us' x F := ⟨h.1, fun p hp => h.2 p (by omega)⟩
theorem rp_cg {lc : Nat → Bool} {cn : Nat → Nat} {us : Nat} {x : Int32} {F G : Nat → Bool} (h : rpB lc cn us x F) (e : ∀ q, lc q = true → F q = G q) : rpB lc cn us x G := ⟨fun q hq => (h.1 q hq).trans (e q hq), h.2⟩
def RXs (lc : Nat → Bool) (cn : Nat → Nat) (s : (Nat → Nat → Bool) × (Nat → Nat → Bool) × (Nat → Bool) × (Nat → Nat → Bool)) (d us : Nat) (he ta em fo : Nat → Int32) : Prop :=
  (∀ e, e < d → rpB lc cn us (he e) (s.1 e)) ∧ (∀ e, e < d → rpB lc cn us (ta e) (s.2.1 e)) ∧ (∀ e, e < d → em e = b2 (s.2.2.1 e)) ∧ (∀ q, lc q = true → rpB lc cn us (fo (cn q)) (s.2.2.2 q))
section
variable {f_productionCount f_textLength f_anythingBuilt f_tokenCount f_parseValue f_parsePlace : Int32} {a_ruleTerms a_ruleLengths a_skips a_grammar a_ranks a_groupings a_text a_heads a_tails a_empties a_placeLetters a_followers a_ruleEnds : Nat → Int32} {a_sets : Nat → Int64} {a_steps a_classes a_finerClasses : Nat → Int32} {a_states : Nat → Int64} {a_moves a_begins a_lookaheads a_builtCounts a_builtSteps a_builtMatches a_builtSkips a_builtGrammar a_builtMoves a_builtActions a_tokenRules a_tokenBegins a_tokenEnds a_stackStates a_stackValues : Nat → Int32} {post : SX → Prop}
theorem xf_2 {x y : Int32} {f0 : Nat → Int32} (H : ∀ fo : Nat → Int32, (∀ p, p < 16 → ∀ i, bt (fo p) i = (bt (f0 p) i || (bt x p && bt y i))) → (∀ p, 16 ≤ p → fo p = f0 p) → post (f_productionCount, f_textLength, f_anythingBuilt, f_tokenCount, f_parseValue, f_parsePlace, a_ruleTerms, a_ruleLengths, a_skips, a_grammar, a_ranks, a_groupings, a_text, a_heads, a_tails, a_empties, a_placeLetters, fo, a_ruleEnds, a_sets, a_steps, a_classes, a_finerClasses, a_states, a_moves, a_begins, a_lookaheads, a_builtCounts, a_builtSteps, a_builtMatches, a_builtSkips, a_builtGrammar, a_builtMoves, a_builtActions, a_tokenRules, a_tokenBegins, a_tokenEnds, a_stackStates, a_stackValues)) :
    ∀ d p (fo : Nat → Int32), p + d = 16 → (∀ k, k < p → ∀ i, bt (fo k) i = (bt (f0 k) i || (bt x k && bt y i))) → (∀ k, p ≤ k → fo k = f0 k) → wX_letFollow_2 post x y f_productionCount f_textLength f_anythingBuilt f_tokenCount f_parseValue f_parsePlace (d + 1) (nI p) a_ruleTerms a_ruleLengths a_skips a_grammar a_ranks a_groupings a_text a_heads a_tails a_empties a_placeLetters fo a_ruleEnds a_sets a_steps a_classes a_finerClasses a_states a_moves a_begins a_lookaheads a_builtCounts a_builtSteps a_builtMatches a_builtSkips a_builtGrammar a_builtMoves a_builtActions a_tokenRules a_tokenBegins a_tokenEnds a_stackStates a_stackValues := by
  intro d
  induction d with
  | zero =>
    intro p fo hp h1 h2
    have : p = 16 := by omega
    subst this
    exact pk_le 16 16 (fun _ => H fo h1 h2) (fun z => absurd z (by omega))
  | succ d ih =>
    intro p fo hp h1 h2
    have ip : vp_in (nI p) 17 := vp_in_nI (by omega) (by omega)
    refine pk_le 16 p (fun z => absurd z (by omega)) (fun _ => zc_b0 p (fun hb => nm_r (nI_1 p) (ih (p + 1) fo (by omega) ?_ (fun k hk => h2 k (by omega)))) (fun hb => ⟨ip, ip, ?_⟩))
    · intro k hk i
      by_cases e : k = p
      · subst e; rw [h2 k (Nat.le_refl _), hb]; simp
      · exact h1 k (by omega) i
    · rw [nI_clamp (show p < 2 ^ 31 by omega)]
      refine nm_e (nm_r (nI_1 p) (ih (p + 1) _ (by omega) ?_ ?_))
      · intro k hk i
        by_cases e : k = p
        · subst e; rw [pk_us, b_or, h2 k (Nat.le_refl _), hb, Bool.true_and]
        · rw [pk_un e]; exact h1 k (by omega) i
      · intro k hk
        rw [pk_un (by omega)]; exact h2 k (by omega)
theorem xf_ {x y : Int32} (H : ∀ fo : Nat → Int32, (∀ p, p < 16 → ∀ i, bt (fo p) i = (bt (a_followers p) i || (bt x p && bt y i))) → (∀ p, 16 ≤ p → fo p = a_followers p) → post (f_productionCount, f_textLength, f_anythingBuilt, f_tokenCount, f_parseValue, f_parsePlace, a_ruleTerms, a_ruleLengths, a_skips, a_grammar, a_ranks, a_groupings, a_text, a_heads, a_tails, a_empties, a_placeLetters, fo, a_ruleEnds, a_sets, a_steps, a_classes, a_finerClasses, a_states, a_moves, a_begins, a_lookaheads, a_builtCounts, a_builtSteps, a_builtMatches, a_builtSkips, a_builtGrammar, a_builtMoves, a_builtActions, a_tokenRules, a_tokenBegins, a_tokenEnds, a_stackStates, a_stackValues)) : wpX_letFollow post (f_productionCount, f_textLength, f_anythingBuilt, f_tokenCount, f_parseValue, f_parsePlace, a_ruleTerms, a_ruleLengths, a_skips, a_grammar, a_ranks, a_groupings, a_text, a_heads, a_tails, a_empties, a_placeLetters, a_followers, a_ruleEnds, a_sets, a_steps, a_classes, a_finerClasses, a_states, a_moves, a_begins, a_lookaheads, a_builtCounts, a_builtSteps, a_builtMatches, a_builtSkips, a_builtGrammar, a_builtMoves, a_builtActions, a_tokenRules, a_tokenBegins, a_tokenEnds, a_stackStates, a_stackValues) x y :=
  ⟨17, xf_2 (f0 := a_followers) H 16 0 a_followers (by omega) (fun k hk => absurd hk (Nat.not_lt_zero _)) (fun _ _ => rfl)⟩
theorem xch {e : Nat} {E1 E2 : Bool} (he : e + 1 < 8) (h1 : a_empties e = b2 E1) (h2 : a_empties (e + 1) = b2 E2)
    (H : ∀ fo : Nat → Int32, (∀ p, p < 16 → ∀ i, bt (fo p) i = (bt (a_followers p) i || (bt (a_tails e) p && bt (a_heads (e + 1)) i))) → (∀ p, 16 ≤ p → fo p = a_followers p) →
      post (f_productionCount, f_textLength, f_anythingBuilt, f_tokenCount, f_parseValue, f_parsePlace, a_ruleTerms, a_ruleLengths, a_skips, a_grammar, a_ranks, a_groupings, a_text, if E1 then upd a_heads e (a_heads e ||| a_heads (e + 1)) else a_heads, upd a_tails e (if E2 then a_tails e ||| a_tails (e + 1) else a_tails (e + 1)), upd a_empties e (b2 (E1 && E2)), a_placeLetters, fo, a_ruleEnds, a_sets, a_steps, a_classes, a_finerClasses, a_states, a_moves, a_begins, a_lookaheads, a_builtCounts, a_builtSteps, a_builtMatches, a_builtSkips, a_builtGrammar, a_builtMoves, a_builtActions, a_tokenRules, a_tokenBegins, a_tokenEnds, a_stackStates, a_stackValues)) : wpX_chain post (f_productionCount, f_textLength, f_anythingBuilt, f_tokenCount, f_parseValue, f_parsePlace, a_ruleTerms, a_ruleLengths, a_skips, a_grammar, a_ranks, a_groupings, a_text, a_heads, a_tails, a_empties, a_placeLetters, a_followers, a_ruleEnds, a_sets, a_steps, a_classes, a_finerClasses, a_states, a_moves, a_begins, a_lookaheads, a_builtCounts, a_builtSteps, a_builtMatches, a_builtSkips, a_builtGrammar, a_builtMoves, a_builtActions, a_tokenRules, a_tokenBegins, a_tokenEnds, a_stackStates, a_stackValues) (nI e) (nI (e + 1)) := by
  have i0 : vp_in (nI e) 8 := vp_in_nI (by omega) (by omega)
  have i1 : vp_in (nI (e + 1)) 8 := vp_in_nI (by omega) (by omega)
  have c0 : (nI e).toNatClampNeg = e := nI_clamp (by omega)
  have c1 : (nI (e + 1)).toNatClampNeg = e + 1 := nI_clamp (by omega)
  unfold wpX_chain
  dsimp only
  rw [c0, c1]
  refine ⟨i0, i1, xf_ (fun fo hfo hfo' => ?_)⟩
  dsimp only
  have H := H fo hfo hfo'
  have w40 : ∀ hd : Nat → Int32, hd = (if E1 then upd a_heads e (a_heads e ||| a_heads (e + 1)) else a_heads) → wX_chain_40 post (nI e) (nI (e + 1)) f_productionCount f_textLength f_anythingBuilt f_tokenCount f_parseValue f_parsePlace a_ruleTerms a_ruleLengths a_skips a_grammar a_ranks a_groupings a_text hd a_tails a_empties a_placeLetters fo a_ruleEnds a_sets a_steps a_classes a_finerClasses a_states a_moves a_begins a_lookaheads a_builtCounts a_builtSteps a_builtMatches a_builtSkips a_builtGrammar a_builtMoves a_builtActions a_tokenRules a_tokenBegins a_tokenEnds a_stackStates a_stackValues := by
    intro hd ehd
    subst ehd
    have w76 : ∀ z : Int32, z = (if E2 then a_tails e ||| a_tails (e + 1) else a_tails (e + 1)) → wX_chain_76 post (nI e) (nI (e + 1)) z (nI e) f_productionCount f_textLength f_anythingBuilt f_tokenCount f_parseValue f_parsePlace a_ruleTerms a_ruleLengths a_skips a_grammar a_ranks a_groupings a_text (if E1 then upd a_heads e (a_heads e ||| a_heads (e + 1)) else a_heads) a_tails a_empties a_placeLetters fo a_ruleEnds a_sets a_steps a_classes a_finerClasses a_states a_moves a_begins a_lookaheads a_builtCounts a_builtSteps a_builtMatches a_builtSkips a_builtGrammar a_builtMoves a_builtActions a_tokenRules a_tokenBegins a_tokenEnds a_stackStates a_stackValues := by
      intro z ez
      subst ez
      unfold wX_chain_76
      rw [c0, c1, h1, h2]
      cases E1 with
      | false => exact ⟨i0, nm_e ⟨i0, br_t rfl ⟨i0, nm_e H⟩⟩⟩
      | true =>
        cases E2 with
        | false => exact ⟨i0, nm_e ⟨i0, br_f (by decide) ⟨i1, br_t rfl ⟨i0, nm_e H⟩⟩⟩⟩
        | true => exact ⟨i0, nm_e ⟨i0, br_f (by decide) ⟨i1, br_f (by decide) ⟨i0, nm_e H⟩⟩⟩⟩
    unfold wX_chain_40
    rw [c0, c1, h2]
    cases E2 with
    | false => exact ⟨i1, br_t rfl ⟨i1, w76 _ rfl⟩⟩
    | true => exact ⟨i1, br_f (by decide) ⟨i0, i1, w76 _ rfl⟩⟩
  rw [h1]
  cases E1 with
  | false => exact ⟨i0, br_t rfl (w40 _ rfl)⟩
  | true => exact ⟨i0, br_f (by decide) ⟨i0, i1, i0, nm_e (w40 _ rfl)⟩⟩
theorem xun {e : Nat} {E1 E2 : Bool} (he : e + 1 < 8) (h1 : a_empties e = b2 E1) (h2 : a_empties (e + 1) = b2 E2)
    (H : post (f_productionCount, f_textLength, f_anythingBuilt, f_tokenCount, f_parseValue, f_parsePlace, a_ruleTerms, a_ruleLengths, a_skips, a_grammar, a_ranks, a_groupings, a_text, upd a_heads e (a_heads e ||| a_heads (e + 1)), upd a_tails e (a_tails e ||| a_tails (e + 1)), upd a_empties e (b2 (E1 || E2)), a_placeLetters, a_followers, a_ruleEnds, a_sets, a_steps, a_classes, a_finerClasses, a_states, a_moves, a_begins, a_lookaheads, a_builtCounts, a_builtSteps, a_builtMatches, a_builtSkips, a_builtGrammar, a_builtMoves, a_builtActions, a_tokenRules, a_tokenBegins, a_tokenEnds, a_stackStates, a_stackValues)) : wpX_unite post (f_productionCount, f_textLength, f_anythingBuilt, f_tokenCount, f_parseValue, f_parsePlace, a_ruleTerms, a_ruleLengths, a_skips, a_grammar, a_ranks, a_groupings, a_text, a_heads, a_tails, a_empties, a_placeLetters, a_followers, a_ruleEnds, a_sets, a_steps, a_classes, a_finerClasses, a_states, a_moves, a_begins, a_lookaheads, a_builtCounts, a_builtSteps, a_builtMatches, a_builtSkips, a_builtGrammar, a_builtMoves, a_builtActions, a_tokenRules, a_tokenBegins, a_tokenEnds, a_stackStates, a_stackValues) (nI e) (nI (e + 1)) := by
  have i0 : vp_in (nI e) 8 := vp_in_nI (by omega) (by omega)
  have i1 : vp_in (nI (e + 1)) 8 := vp_in_nI (by omega) (by omega)
  have c0 : (nI e).toNatClampNeg = e := nI_clamp (by omega)
  have c1 : (nI (e + 1)).toNatClampNeg = e + 1 := nI_clamp (by omega)
  unfold wpX_unite
  dsimp only
  rw [c0, c1, h1, h2]
  refine ⟨i0, i1, i0, nm_e ⟨i0, i1, i0, nm_e ⟨i0, ?_⟩⟩⟩
  cases E1 with
  | false =>
    cases E2 with
    | false => exact br_t rfl ⟨i1, br_t rfl ⟨i0, nm_e H⟩⟩
    | true => exact br_t rfl ⟨i1, br_f (by decide) ⟨i0, nm_e H⟩⟩
  | true => exact br_f (by decide) ⟨i0, nm_e H⟩
theorem xre {e t : Nat} (he : e < 8) (ht : 7 ≤ t) (ht' : t < 10)
    (H : ∀ fo : Nat → Int32, (∀ p, p < 16 → ∀ i, bt (fo p) i = (bt (a_followers p) i || (decide (t < 9) && (bt (a_tails e) p && bt (a_heads e) i)))) → (∀ p, 16 ≤ p → fo p = a_followers p) →
      post (f_productionCount, f_textLength, f_anythingBuilt, f_tokenCount, f_parseValue, f_parsePlace, a_ruleTerms, a_ruleLengths, a_skips, a_grammar, a_ranks, a_groupings, a_text, a_heads, a_tails, if t = 8 then a_empties else upd a_empties e 1, a_placeLetters, fo, a_ruleEnds, a_sets, a_steps, a_classes, a_finerClasses, a_states, a_moves, a_begins, a_lookaheads, a_builtCounts, a_builtSteps, a_builtMatches, a_builtSkips, a_builtGrammar, a_builtMoves, a_builtActions, a_tokenRules, a_tokenBegins, a_tokenEnds, a_stackStates, a_stackValues)) : wpX_repeat post (f_productionCount, f_textLength, f_anythingBuilt, f_tokenCount, f_parseValue, f_parsePlace, a_ruleTerms, a_ruleLengths, a_skips, a_grammar, a_ranks, a_groupings, a_text, a_heads, a_tails, a_empties, a_placeLetters, a_followers, a_ruleEnds, a_sets, a_steps, a_classes, a_finerClasses, a_states, a_moves, a_begins, a_lookaheads, a_builtCounts, a_builtSteps, a_builtMatches, a_builtSkips, a_builtGrammar, a_builtMoves, a_builtActions, a_tokenRules, a_tokenBegins, a_tokenEnds, a_stackStates, a_stackValues) (nI e) (nI t) := by
  have i0 : vp_in (nI e) 8 := vp_in_nI (by omega) (by omega)
  have c0 : (nI e).toNatClampNeg = e := nI_clamp (by omega)
  have w22 : ∀ fo : Nat → Int32, post (f_productionCount, f_textLength, f_anythingBuilt, f_tokenCount, f_parseValue, f_parsePlace, a_ruleTerms, a_ruleLengths, a_skips, a_grammar, a_ranks, a_groupings, a_text, a_heads, a_tails, if t = 8 then a_empties else upd a_empties e 1, a_placeLetters, fo, a_ruleEnds, a_sets, a_steps, a_classes, a_finerClasses, a_states, a_moves, a_begins, a_lookaheads, a_builtCounts, a_builtSteps, a_builtMatches, a_builtSkips, a_builtGrammar, a_builtMoves, a_builtActions, a_tokenRules, a_tokenBegins, a_tokenEnds, a_stackStates, a_stackValues) → wX_repeat_22 post (nI e) (nI t) f_productionCount f_textLength f_anythingBuilt f_tokenCount f_parseValue f_parsePlace a_ruleTerms a_ruleLengths a_skips a_grammar a_ranks a_groupings a_text a_heads a_tails a_empties a_placeLetters fo a_ruleEnds a_sets a_steps a_classes a_finerClasses a_states a_moves a_begins a_lookaheads a_builtCounts a_builtSteps a_builtMatches a_builtSkips a_builtGrammar a_builtMoves a_builtActions a_tokenRules a_tokenBegins a_tokenEnds a_stackStates a_stackValues := by
    intro fo h
    unfold wX_repeat_22
    rw [c0]
    refine pk_eq t 7 (fun e7 => ⟨i0, nm_e ?_⟩) (fun n7 => pk_eq t 9 (fun e9 => ⟨i0, nm_e ?_⟩) (fun n9 => ?_))
    · rw [if_neg (by omega)] at h; exact h
    · rw [if_neg (by omega)] at h; exact h
    · rw [if_pos (by omega)] at h; exact h
  unfold wpX_repeat
  dsimp only
  rw [c0]
  refine pk_eq t 9 (fun e9 => w22 _ (H a_followers (fun p hp i => ?_) (fun _ _ => rfl))) (fun n9 => ⟨i0, i0, xf_ (fun fo h1 h2 => w22 fo (H fo (fun p hp i => ?_) h2))⟩)
  · rw [show decide (t < 9) = false from decide_eq_false (by omega)]; simp
  · rw [show decide (t < 9) = true from decide_eq_true (by omega), Bool.true_and]; exact h1 p hp i
end
section
variable {f_productionCount f_textLength f_anythingBuilt f_tokenCount f_parseValue f_parsePlace : Int32} {a_ruleTerms a_ruleLengths a_skips a_grammar a_ranks a_groupings a_text a_heads a_tails a_empties a_placeLetters a_followers a_ruleEnds : Nat → Int32} {a_sets : Nat → Int64} {a_steps a_classes a_finerClasses : Nat → Int32} {a_states : Nat → Int64} {a_moves a_begins a_lookaheads a_builtCounts a_builtSteps a_builtMatches a_builtSkips a_builtGrammar a_builtMoves a_builtActions a_tokenRules a_tokenBegins a_tokenEnds a_stackStates a_stackValues : Nat → Int32} {post : Int32 → SX → Prop}
/-- one term -/
theorem xg_ {lc : Nat → Bool} {cn : Nat → Nat} {x1 : Int32} {n t c d us k : Nat} {s : (Nat → Nat → Bool) × (Nat → Nat → Bool) × (Nat → Bool) × (Nat → Nat → Bool)} (ht : t < 10) (hd : d ≤ 4) (htk : tk t ≤ d) (hus : t < 5 → us < 16)
    (hcn : ∀ q, lc q = true → cn q < 16) (hus16 : us ≤ 16) (hk : k < 8) (hlc : t < 5 → lc c = true ∧ cn c = us) (hinj : ∀ q q', lc q = true → lc q' = true → cn q = cn q' → q = q')
    (h : RXs lc cn s d us a_heads a_tails a_empties a_followers)
    (J : ∀ (he ta em pl fo : Nat → Int32), RXs lc cn (gst t c d s) (d + 1 - tk t) (if t < 5 then us + 1 else us) he ta em fo → pl = (if t < 5 then upd a_placeLetters us (nI t) else a_placeLetters) → (∀ p, 16 ≤ p → fo p = a_followers p) →
      wX_layOutRule_8 post x1 n (nI (if t < 5 then us + 1 else us)) (nI (d + 1 - tk t)) (nI (k + 1)) f_productionCount f_textLength f_anythingBuilt f_tokenCount f_parseValue f_parsePlace a_ruleTerms a_ruleLengths a_skips a_grammar a_ranks a_groupings a_text he ta em pl fo a_ruleEnds a_sets a_steps a_classes a_finerClasses a_states a_moves a_begins a_lookaheads a_builtCounts a_builtSteps a_builtMatches a_builtSkips a_builtGrammar a_builtMoves a_builtActions a_tokenRules a_tokenBegins a_tokenEnds a_stackStates a_stackValues) :
    (4 < nI t → ((nI t = 5 → (∀ x4_92, x4_92 = nI d + (-1) → wpX_chain (fun u => match u with | (f_productionCount, f_textLength, f_anythingBuilt, f_tokenCount, f_parseValue, f_parsePlace, a_ruleTerms, a_ruleLengths, a_skips, a_grammar, a_ranks, a_groupings, a_text, a_heads, a_tails, a_empties, a_placeLetters, a_followers, a_ruleEnds, a_sets, a_steps, a_classes, a_finerClasses, a_states, a_moves, a_begins, a_lookaheads, a_builtCounts, a_builtSteps, a_builtMatches, a_builtSkips, a_builtGrammar, a_builtMoves, a_builtActions, a_tokenRules, a_tokenBegins, a_tokenEnds, a_stackStates, a_stackValues) => (∀ x5_133, x5_133 = nI k + 1 → (wX_layOutRule_8 post x1 n (nI us) x4_92 x5_133 f_productionCount f_textLength f_anythingBuilt f_tokenCount f_parseValue f_parsePlace a_ruleTerms a_ruleLengths a_skips a_grammar a_ranks a_groupings a_text a_heads a_tails a_empties a_placeLetters a_followers a_ruleEnds a_sets a_steps a_classes a_finerClasses a_states a_moves a_begins a_lookaheads a_builtCounts a_builtSteps a_builtMatches a_builtSkips a_builtGrammar a_builtMoves a_builtActions a_tokenRules a_tokenBegins a_tokenEnds a_stackStates a_stackValues))) (f_productionCount, f_textLength, f_anythingBuilt, f_tokenCount, f_parseValue, f_parsePlace, a_ruleTerms, a_ruleLengths, a_skips, a_grammar, a_ranks, a_groupings, a_text, a_heads, a_tails, a_empties, a_placeLetters, a_followers, a_ruleEnds, a_sets, a_steps, a_classes, a_finerClasses, a_states, a_moves, a_begins, a_lookaheads, a_builtCounts, a_builtSteps, a_builtMatches, a_builtSkips, a_builtGrammar, a_builtMoves, a_builtActions, a_tokenRules, a_tokenBegins, a_tokenEnds, a_stackStates, a_stackValues) (x4_92 - 1) x4_92))
        ∧ (¬ nI t = 5 → ((nI t = 6 → (∀ x4_50, x4_50 = nI d + (-1) → wpX_unite (fun u => match u with | (f_productionCount, f_textLength, f_anythingBuilt, f_tokenCount, f_parseValue, f_parsePlace, a_ruleTerms, a_ruleLengths, a_skips, a_grammar, a_ranks, a_groupings, a_text, a_heads, a_tails, a_empties, a_placeLetters, a_followers, a_ruleEnds, a_sets, a_steps, a_classes, a_finerClasses, a_states, a_moves, a_begins, a_lookaheads, a_builtCounts, a_builtSteps, a_builtMatches, a_builtSkips, a_builtGrammar, a_builtMoves, a_builtActions, a_tokenRules, a_tokenBegins, a_tokenEnds, a_stackStates, a_stackValues) => (∀ x5_91, x5_91 = nI k + 1 → (wX_layOutRule_8 post x1 n (nI us) x4_50 x5_91 f_productionCount f_textLength f_anythingBuilt f_tokenCount f_parseValue f_parsePlace a_ruleTerms a_ruleLengths a_skips a_grammar a_ranks a_groupings a_text a_heads a_tails a_empties a_placeLetters a_followers a_ruleEnds a_sets a_steps a_classes a_finerClasses a_states a_moves a_begins a_lookaheads a_builtCounts a_builtSteps a_builtMatches a_builtSkips a_builtGrammar a_builtMoves a_builtActions a_tokenRules a_tokenBegins a_tokenEnds a_stackStates a_stackValues))) (f_productionCount, f_textLength, f_anythingBuilt, f_tokenCount, f_parseValue, f_parsePlace, a_ruleTerms, a_ruleLengths, a_skips, a_grammar, a_ranks, a_groupings, a_text, a_heads, a_tails, a_empties, a_placeLetters, a_followers, a_ruleEnds, a_sets, a_steps, a_classes, a_finerClasses, a_states, a_moves, a_begins, a_lookaheads, a_builtCounts, a_builtSteps, a_builtMatches, a_builtSkips, a_builtGrammar, a_builtMoves, a_builtActions, a_tokenRules, a_tokenBegins, a_tokenEnds, a_stackStates, a_stackValues) (x4_50 - 1) x4_50))
          ∧ (¬ nI t = 6 → wpX_repeat (fun u => match u with | (f_productionCount, f_textLength, f_anythingBuilt, f_tokenCount, f_parseValue, f_parsePlace, a_ruleTerms, a_ruleLengths, a_skips, a_grammar, a_ranks, a_groupings, a_text, a_heads, a_tails, a_empties, a_placeLetters, a_followers, a_ruleEnds, a_sets, a_steps, a_classes, a_finerClasses, a_states, a_moves, a_begins, a_lookaheads, a_builtCounts, a_builtSteps, a_builtMatches, a_builtSkips, a_builtGrammar, a_builtMoves, a_builtActions, a_tokenRules, a_tokenBegins, a_tokenEnds, a_stackStates, a_stackValues) => (∀ x5_49, x5_49 = nI k + 1 → (wX_layOutRule_8 post x1 n (nI us) (nI d) x5_49 f_productionCount f_textLength f_anythingBuilt f_tokenCount f_parseValue f_parsePlace a_ruleTerms a_ruleLengths a_skips a_grammar a_ranks a_groupings a_text a_heads a_tails a_empties a_placeLetters a_followers a_ruleEnds a_sets a_steps a_classes a_finerClasses a_states a_moves a_begins a_lookaheads a_builtCounts a_builtSteps a_builtMatches a_builtSkips a_builtGrammar a_builtMoves a_builtActions a_tokenRules a_tokenBegins a_tokenEnds a_stackStates a_stackValues))) (f_productionCount, f_textLength, f_anythingBuilt, f_tokenCount, f_parseValue, f_parsePlace, a_ruleTerms, a_ruleLengths, a_skips, a_grammar, a_ranks, a_groupings, a_text, a_heads, a_tails, a_empties, a_placeLetters, a_followers, a_ruleEnds, a_sets, a_steps, a_classes, a_finerClasses, a_states, a_moves, a_begins, a_lookaheads, a_builtCounts, a_builtSteps, a_builtMatches, a_builtSkips, a_builtGrammar, a_builtMoves, a_builtActions, a_tokenRules, a_tokenBegins, a_tokenEnds, a_stackStates, a_stackValues) (nI d - 1) (nI t))))))
      ∧ (¬ 4 < nI t → (vp_in (nI us) 16 ∧ ∀ a_placeLetters_135, a_placeLetters_135 = upd a_placeLetters (nI us).toNatClampNeg (nI t) → (vp_in (nI d) 8 ∧ ∀ a_heads_137, a_heads_137 = upd a_heads (nI d).toNatClampNeg ((1 : Int32) <<< (nI us &&& 31)) → (vp_in (nI d) 8 ∧ ∀ a_tails_139, a_tails_139 = upd a_tails (nI d).toNatClampNeg ((1 : Int32) <<< (nI us &&& 31)) → (vp_in (nI d) 8 ∧ ∀ a_empties_141, a_empties_141 = upd a_empties (nI d).toNatClampNeg (vp_nar .boolean 0) → (∀ x3_142, x3_142 = nI us + 1 → (∀ x4_143, x4_143 = nI d + 1 → (∀ x5_144, x5_144 = nI k + 1 → (wX_layOutRule_8 post x1 n x3_142 x4_143 x5_144 f_productionCount f_textLength f_anythingBuilt f_tokenCount f_parseValue f_parsePlace a_ruleTerms a_ruleLengths a_skips a_grammar a_ranks a_groupings a_text a_heads_137 a_tails_139 a_empties_141 a_placeLetters_135 a_followers a_ruleEnds a_sets a_steps a_classes a_finerClasses a_states a_moves a_begins a_lookaheads a_builtCounts a_builtSteps a_builtMatches a_builtSkips a_builtGrammar a_builtMoves a_builtActions a_tokenRules a_tokenBegins a_tokenEnds a_stackStates a_stackValues))))))))) := by
  obtain ⟨F, T, E, G⟩ := s
  obtain ⟨h1, h2, h3, h4⟩ := h
  dsimp only at h1 h2 h3 h4
  have hcc := tk_c t
  refine pk_lt 4 t (fun c4 => pk_eq t 5 (fun e5 => ?_) (fun n5 => pk_eq t 6 (fun e6 => ?_) (fun n6 => ?_))) (fun c4 => ?_)
  · have e2 := hcc.2.1 (Or.inl e5)
    obtain ⟨e, rfl⟩ : ∃ e, d = e + 2 := ⟨d - 2, by omega⟩
    rw [e2, if_neg (by omega), if_neg (by omega), show e + 2 + 1 - 2 = e + 1 by omega] at J
    refine nm_r (pk_m1 (e + 1)) ?_
    rw [nI_pred]
    refine xch (by omega) (h3 e (by omega)) (h3 (e + 1) (by omega)) (fun fo hfo hfo' => ?_)
    dsimp only
    refine nm_r (nI_1 k) (J _ _ _ _ fo ⟨fun j hj => ?_, fun j hj => ?_, fun j hj => ?_, fun q hq => ?_⟩ rfl hfo')
    · unfold gst ub
      rw [if_neg (show ¬ t < 5 by omega), if_pos e5, show e + 2 - 2 = e by omega, show e + 2 - 1 = e + 1 by omega]
      dsimp only
      by_cases z : j = e
      · subst z
        rw [if_pos rfl]
        cases hE : E j with
        | false => exact rp_cg (h1 j (by omega)) (fun q _ => by simp)
        | true => rw [if_pos rfl, pk_us]; exact rp_cg (rp_or (h1 j (by omega)) (h1 (j + 1) (by omega))) (fun q _ => by simp)
      · rw [if_neg z]
        have : (if E e then upd a_heads e (a_heads e ||| a_heads (e + 1)) else a_heads) j = a_heads j := by
          split
          · exact pk_un z
          · rfl
        rw [this]; exact h1 j (by omega)
    · unfold gst ub
      rw [if_neg (show ¬ t < 5 by omega), if_pos e5, show e + 2 - 2 = e by omega, show e + 2 - 1 = e + 1 by omega]
      dsimp only
      by_cases z : j = e
      · subst z
        rw [if_pos rfl, pk_us]
        cases hE : E (j + 1) with
        | false => exact rp_cg (h2 (j + 1) (by omega)) (fun q _ => by simp)
        | true => rw [if_pos rfl]; exact rp_cg (rp_or (h2 j (by omega)) (h2 (j + 1) (by omega))) (fun q _ => by simp [Bool.or_comm])
      · rw [if_neg z, pk_un z]; exact h2 j (by omega)
    · unfold gst ue
      rw [if_neg (show ¬ t < 5 by omega), if_pos e5, show e + 2 - 2 = e by omega, show e + 2 - 1 = e + 1 by omega]
      dsimp only
      by_cases z : j = e
      · subst z; rw [if_pos rfl, pk_us]
      · rw [if_neg z, pk_un z]; exact h3 j (by omega)
    · unfold gst
      rw [if_neg (show ¬ t < 5 by omega), if_pos e5, show e + 2 - 2 = e by omega, show e + 2 - 1 = e + 1 by omega]
      dsimp only
      refine ⟨fun q' hq' => ?_, fun p hp => ?_⟩
      · rw [hfo _ (hcn q hq), (h4 q hq).1 q' hq', (h2 e (by omega)).1 q hq, (h1 (e + 1) (by omega)).1 q' hq']
      · rw [hfo _ (hcn q hq), (h4 q hq).2 p hp, (h1 (e + 1) (by omega)).2 p hp]; simp
  · have e2 := hcc.2.1 (Or.inr e6)
    obtain ⟨e, rfl⟩ : ∃ e, d = e + 2 := ⟨d - 2, by omega⟩
    rw [e2, if_neg (by omega), if_neg (by omega), show e + 2 + 1 - 2 = e + 1 by omega] at J
    refine nm_r (pk_m1 (e + 1)) ?_
    rw [nI_pred]
    refine xun (by omega) (h3 e (by omega)) (h3 (e + 1) (by omega)) ?_
    dsimp only
    refine nm_r (nI_1 k) (J _ _ _ _ _ ⟨fun j hj => ?_, fun j hj => ?_, fun j hj => ?_, fun q hq => ?_⟩ rfl (fun _ _ => rfl))
    · unfold gst ub
      rw [if_neg (show ¬ t < 5 by omega), if_neg n5, if_pos e6, show e + 2 - 2 = e by omega, show e + 2 - 1 = e + 1 by omega]
      dsimp only
      by_cases z : j = e
      · subst z; rw [if_pos rfl, pk_us]; exact rp_or (h1 j (by omega)) (h1 (j + 1) (by omega))
      · rw [if_neg z, pk_un z]; exact h1 j (by omega)
    · unfold gst ub
      rw [if_neg (show ¬ t < 5 by omega), if_neg n5, if_pos e6, show e + 2 - 2 = e by omega, show e + 2 - 1 = e + 1 by omega]
      dsimp only
      by_cases z : j = e
      · subst z; rw [if_pos rfl, pk_us]; exact rp_or (h2 j (by omega)) (h2 (j + 1) (by omega))
      · rw [if_neg z, pk_un z]; exact h2 j (by omega)
    · unfold gst ue
      rw [if_neg (show ¬ t < 5 by omega), if_neg n5, if_pos e6, show e + 2 - 2 = e by omega, show e + 2 - 1 = e + 1 by omega]
      dsimp only
      by_cases z : j = e
      · subst z; rw [if_pos rfl, pk_us]
      · rw [if_neg z, pk_un z]; exact h3 j (by omega)
    · unfold gst
      rw [if_neg (show ¬ t < 5 by omega), if_neg n5, if_pos e6]
      exact h4 q hq
  · have e1 := hcc.2.2 (by omega)
    obtain ⟨e, rfl⟩ : ∃ e, d = e + 1 := ⟨d - 1, by omega⟩
    rw [e1, if_neg (by omega), if_neg (by omega), show e + 1 + 1 - 1 = e + 1 by omega] at J
    rw [nI_pred]
    refine xre (by omega) (by omega) ht (fun fo hfo hfo' => ?_)
    dsimp only
    refine nm_r (nI_1 k) (J _ _ _ _ fo ⟨fun j hj => ?_, fun j hj => ?_, fun j hj => ?_, fun q hq => ?_⟩ rfl hfo')
    · have : (gst t c (e + 1) (F, T, E, G)).1 = F := by
        unfold gst
        rw [if_neg (show ¬ t < 5 by omega), if_neg n5, if_neg n6]
        split
        · rfl
        · split <;> rfl
      rw [this]; exact h1 j hj
    · have : (gst t c (e + 1) (F, T, E, G)).2.1 = T := by
        unfold gst
        rw [if_neg (show ¬ t < 5 by omega), if_neg n5, if_neg n6]
        split
        · rfl
        · split <;> rfl
      rw [this]; exact h2 j hj
    · by_cases e8 : t = 8
      · have : (gst t c (e + 1) (F, T, E, G)).2.2.1 = E := by
          unfold gst
          rw [if_neg (show ¬ t < 5 by omega), if_neg n5, if_neg n6, if_neg (show ¬ t = 7 by omega), if_pos e8]
        rw [this, if_pos e8]; exact h3 j hj
      · have : (gst t c (e + 1) (F, T, E, G)).2.2.1 = ue E e true := by
          unfold gst
          rw [if_neg (show ¬ t < 5 by omega), if_neg n5, if_neg n6]
          by_cases e7 : t = 7
          · rw [if_pos e7]; rfl
          · rw [if_neg e7, if_neg e8]; rfl
        rw [this, if_neg e8]
        unfold ue
        by_cases z : j = e
        · subst z; rw [if_pos rfl, pk_us]; rfl
        · rw [if_neg z, pk_un z]; exact h3 j hj
    · have : (gst t c (e + 1) (F, T, E, G)).2.2.2 = fun p q => G p q || (decide (t < 9) && (T e p && F e q)) := by
        unfold gst
        rw [if_neg (show ¬ t < 5 by omega), if_neg n5, if_neg n6]
        by_cases e7 : t = 7
        · rw [if_pos e7, show decide (t < 9) = true from decide_eq_true (by omega)]; simp
        · rw [if_neg e7]
          by_cases e8 : t = 8
          · rw [if_pos e8, show decide (t < 9) = true from decide_eq_true (by omega)]; simp
          · rw [if_neg e8, show decide (t < 9) = false from decide_eq_false (by omega)]; simp
      rw [this]
      dsimp only
      refine ⟨fun q' hq' => ?_, fun p hp => ?_⟩
      · rw [hfo _ (hcn q hq), (h4 q hq).1 q' hq', (h2 e (by omega)).1 q hq, (h1 e (by omega)).1 q' hq']
      · rw [hfo _ (hcn q hq), (h4 q hq).2 p hp, (h1 e (by omega)).2 p hp]; simp
  · have c5 : t < 5 := by omega
    have e0 := hcc.1 c5
    obtain ⟨l1, l2⟩ := hlc c5
    have u16 := hus c5
    rw [e0, if_pos c5, if_pos c5, Nat.sub_zero] at J
    rw [nI_clamp (show us < 2 ^ 31 by omega), nI_clamp (show d < 2 ^ 31 by omega)]
    have i0 : vp_in (nI d) 8 := vp_in_nI (by omega) (by omega)
    have one : rpB lc cn (us + 1) ((1 : Int32) <<< (nI us &&& 31)) (fun q => q == c) := by
      refine ⟨fun q hq => ?_, fun p hp => ?_⟩
      · rw [zc_one (by omega)]
        by_cases z : q = c
        · subst z; simp [l2]
        · have : ¬ cn q = us := fun y => z (hinj q c hq l1 (by omega))
          simp [z, this]
      · rw [zc_one (by omega)]; exact decide_eq_false (by omega)
    refine ⟨vp_in_nI (by omega) (by omega), nm_e ⟨i0, nm_e ⟨i0, nm_e ⟨i0, nm_e (nm_r (nI_1 us) (nm_r (nI_1 d) (nm_r (nI_1 k) (J _ _ _ _ _ ⟨fun j hj => ?_, fun j hj => ?_, fun j hj => ?_, fun q hq => ?_⟩ rfl (fun _ _ => rfl)))))⟩⟩⟩⟩
    · unfold gst ub
      rw [if_pos c5]
      dsimp only
      by_cases z : j = d
      · subst z; rw [if_pos rfl, pk_us]; exact one
      · rw [if_neg z, pk_un z]; exact rp_us (h1 j (by omega)) (by omega)
    · unfold gst ub
      rw [if_pos c5]
      dsimp only
      by_cases z : j = d
      · subst z; rw [if_pos rfl, pk_us]; exact one
      · rw [if_neg z, pk_un z]; exact rp_us (h2 j (by omega)) (by omega)
    · unfold gst ue
      rw [if_pos c5]
      dsimp only
      by_cases z : j = d
      · subst z; rw [if_pos rfl, pk_us]; rfl
      · rw [if_neg z, pk_un z]; exact h3 j (by omega)
    · unfold gst
      rw [if_pos c5]
      exact rp_us (h4 q hq) (by omega)
end
