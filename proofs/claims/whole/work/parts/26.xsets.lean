/-! the component's sets -/
theorem lc_i {tm sz : Nat → Nat} {q : Nat} : lcB tm sz q = true ↔ q < 32 ∧ q % 8 < sz (q / 8) ∧ tm q < 5 := by
  unfold lcB; simp
theorem lc_16 {tm sz : Nat → Nat} (h : rwf tm sz) {q : Nat} (hq : lcB tm sz q = true) : lcn tm sz q < lcn tm sz 32 ∧ lcn tm sz 32 ≤ 16 := by
  have h1 := (lc_i.mp hq).1
  exact ⟨lcn_lt hq h1, lcn_4 h 4 (by omega)⟩
def xLaid (tm sz : Nat → Nat) (R : Nat) (pl fo re : Nat → Int32) : Prop :=
  (∀ q, lcB tm sz q = true → rpB (lcB tm sz) (lcn tm sz) (lcn tm sz (8 * R)) (fo (lcn tm sz q)) (gG tm sz R q)) ∧ rpB (lcB tm sz) (lcn tm sz) (lcn tm sz (8 * R)) (fo 16) (sta tm sz R) ∧
  (∀ r, r < R → rpB (lcB tm sz) (lcn tm sz) (lcn tm sz (8 * R)) (re r) (TR tm sz r)) ∧ (∀ q, q < 8 * R → lcB tm sz q = true → pl (lcn tm sz q) = nI (tm q))
section
variable {f_productionCount f_textLength f_anythingBuilt f_tokenCount f_parseValue f_parsePlace : Int32} {a_ruleTerms a_ruleLengths a_skips a_grammar a_ranks a_groupings a_text a_heads a_tails a_empties a_placeLetters a_followers a_ruleEnds : Nat → Int32} {a_sets : Nat → Int64} {a_steps a_classes a_finerClasses : Nat → Int32} {a_states : Nat → Int64} {a_moves a_begins a_lookaheads a_builtCounts a_builtSteps a_builtMatches a_builtSkips a_builtGrammar a_builtMoves a_builtActions a_tokenRules a_tokenBegins a_tokenEnds a_stackStates a_stackValues : Nat → Int32}
theorem xr_8 {post : Int32 → SX → Prop} {r z : Nat} {G0 : Nat → Nat → Bool} {fo0 : Nat → Int32} (hr : r < 4) (hru : ru_ok a_ruleTerms a_ruleLengths) (hw : rwf (nv a_ruleTerms) (nv a_ruleLengths)) (ez : a_ruleLengths r = nI z) (hz : z ≤ 8)
    (H : ∀ (he ta em pl fo : Nat → Int32), RXs (lcB (nv a_ruleTerms) (nv a_ruleLengths)) (lcn (nv a_ruleTerms) (nv a_ruleLengths)) (gl (nv a_ruleTerms) (8 * r) G0 z) (dp (nv a_ruleTerms) (8 * r) z) (lcn (nv a_ruleTerms) (nv a_ruleLengths) (8 * r + z)) he ta em fo →
      (∀ q, q < 8 * r + z → lcB (nv a_ruleTerms) (nv a_ruleLengths) q = true → pl (lcn (nv a_ruleTerms) (nv a_ruleLengths) q) = nI (nv a_ruleTerms q)) → (∀ p, 16 ≤ p → fo p = fo0 p) →
      post (nI (lcn (nv a_ruleTerms) (nv a_ruleLengths) (8 * r + z))) (f_productionCount, f_textLength, f_anythingBuilt, f_tokenCount, f_parseValue, f_parsePlace, a_ruleTerms, a_ruleLengths, a_skips, a_grammar, a_ranks, a_groupings, a_text, he, ta, em, pl, fo, a_ruleEnds, a_sets, a_steps, a_classes, a_finerClasses, a_states, a_moves, a_begins, a_lookaheads, a_builtCounts, a_builtSteps, a_builtMatches, a_builtSkips, a_builtGrammar, a_builtMoves, a_builtActions, a_tokenRules, a_tokenBegins, a_tokenEnds, a_stackStates, a_stackValues)) :
    ∀ d k (he ta em pl fo : Nat → Int32), k + d = z → RXs (lcB (nv a_ruleTerms) (nv a_ruleLengths)) (lcn (nv a_ruleTerms) (nv a_ruleLengths)) (gl (nv a_ruleTerms) (8 * r) G0 k) (dp (nv a_ruleTerms) (8 * r) k) (lcn (nv a_ruleTerms) (nv a_ruleLengths) (8 * r + k)) he ta em fo →
      (∀ q, q < 8 * r + k → lcB (nv a_ruleTerms) (nv a_ruleLengths) q = true → pl (lcn (nv a_ruleTerms) (nv a_ruleLengths) q) = nI (nv a_ruleTerms q)) → (∀ p, 16 ≤ p → fo p = fo0 p) →
      wX_layOutRule_8 post (nI r) (d + 1) (nI (lcn (nv a_ruleTerms) (nv a_ruleLengths) (8 * r + k))) (nI (dp (nv a_ruleTerms) (8 * r) k)) (nI k) f_productionCount f_textLength f_anythingBuilt f_tokenCount f_parseValue f_parsePlace a_ruleTerms a_ruleLengths a_skips a_grammar a_ranks a_groupings a_text he ta em pl fo a_ruleEnds a_sets a_steps a_classes a_finerClasses a_states a_moves a_begins a_lookaheads a_builtCounts a_builtSteps a_builtMatches a_builtSkips a_builtGrammar a_builtMoves a_builtActions a_tokenRules a_tokenBegins a_tokenEnds a_stackStates a_stackValues := by
  have c1 : (nI r).toNatClampNeg = r := nI_clamp (by omega)
  have ir : vp_in (nI r) 4 := vp_in_nI hr (by omega)
  have ezn : nv a_ruleLengths r = z := by unfold nv; rw [ez]; exact nI_clamp (by omega)
  have hwr := hw.2.2 r hr
  rw [ezn] at hwr
  intro d
  induction d with
  | zero =>
    intro k he ta em pl fo hk h hp hf
    have : k = z := by omega
    subst this
    have h' := H he ta em pl fo h hp hf
    refine pk_le 8 k (fun _ => h') (fun _ => ⟨ir, ?_⟩)
    rw [c1, ez]
    exact pk_le k k (fun _ => h') (fun z => absurd z (by omega))
  | succ d ih =>
    intro k he ta em pl fo hk h hp hf
    obtain ⟨t, ht, et⟩ := hru.1 (8 * r + k)
    have etn : nv a_ruleTerms (8 * r + k) = t := by unfold nv; rw [et]; exact nI_clamp (by omega)
    have htk := hwr.1 k (by omega)
    rw [etn] at htk
    have hdp : dp (nv a_ruleTerms) (8 * r) (k + 1) = dp (nv a_ruleTerms) (8 * r) k + 1 - tk t := by
      show _ + 1 - tk (nv a_ruleTerms (8 * r + k)) = _
      rw [etn]
    have hgl : gl (nv a_ruleTerms) (8 * r) G0 (k + 1) = gst t (8 * r + k) (dp (nv a_ruleTerms) (8 * r) k) (gl (nv a_ruleTerms) (8 * r) G0 k) := by
      show gst (nv a_ruleTerms (8 * r + k)) _ _ _ = _
      rw [etn]
    have hlc : lcB (nv a_ruleTerms) (nv a_ruleLengths) (8 * r + k) = decide (t < 5) := by
      unfold lcB
      rw [show (8 * r + k) / 8 = r by omega, show (8 * r + k) % 8 = k by omega, ezn, etn, decide_eq_true (show 8 * r + k < 32 by omega), decide_eq_true (show k < z by omega)]
      rfl
    have hus : lcn (nv a_ruleTerms) (nv a_ruleLengths) (8 * r + (k + 1)) = if t < 5 then lcn (nv a_ruleTerms) (nv a_ruleLengths) (8 * r + k) + 1 else lcn (nv a_ruleTerms) (nv a_ruleLengths) (8 * r + k) := by
      show _ + (if lcB (nv a_ruleTerms) (nv a_ruleLengths) (8 * r + k) = true then 1 else 0) = _
      rw [hlc]
      by_cases c : t < 5 <;> simp [c]
    have hd4 := dp_4 hwr hz (k := k) (by omega)
    have u1 := lcn_16 hw hr (k := k + 1) (by omega)
    have u0 := lcn_16 hw hr (k := k) (by omega)
    refine pk_le 8 k (fun z => absurd z (by omega)) (fun _ => ⟨ir, ?_⟩)
    rw [c1, ez]
    refine pk_le z k (fun z => absurd z (by omega)) (fun _ => ?_)
    rw [show nI r * 8 + nI k = nI (8 * r + k) from by rw [show (8 : Int32) = nI 8 from rfl, pk_mul, nI_add]; congr 1; omega, nI_clamp (show 8 * r + k < 2 ^ 31 by omega), et]
    refine ⟨vp_in_nI (by omega) (by omega), nm_e ?_⟩
    refine xg_ (a_heads := he) (a_tails := ta) (a_empties := em) (a_placeLetters := pl) (a_followers := fo) (c := 8 * r + k) ht hd4 htk (fun c => ?_) (fun q hq => ?_) (by omega) (by omega) (fun c => ⟨by rw [hlc]; exact decide_eq_true c, rfl⟩) (fun q q' a b => lcn_inj a b) h (fun he' ta' em' pl' fo' h' hp' hf' => ?_)
    · rw [hus, if_pos c] at u1; omega
    · have := lc_16 hw hq; omega
    · rw [← hgl, ← hdp, ← hus] at h'
      rw [← hdp, ← hus]
      refine ih (k + 1) he' ta' em' pl' fo' (by omega) h' (fun q hq hl => ?_) (fun p hp => (hf' p hp).trans (hf p hp))
      rw [hp']
      by_cases c : t < 5
      · rw [if_pos c]
        by_cases e : q = 8 * r + k
        · subst e; rw [pk_us, etn]
        · have : lcn (nv a_ruleTerms) (nv a_ruleLengths) q ≠ lcn (nv a_ruleTerms) (nv a_ruleLengths) (8 * r + k) := fun z => e (lcn_inj hl (by rw [hlc]; exact decide_eq_true c) z)
          rw [pk_un this]; exact hp q (by omega) hl
      · rw [if_neg c]
        refine hp q ?_ hl
        by_cases e : q = 8 * r + k
        · subst e; rw [hlc, decide_eq_false c] at hl; exact absurd hl (by decide)
        · omega
theorem xl_25 {post : SX → Prop} (hru : ru_ok a_ruleTerms a_ruleLengths) (hw : rwf (nv a_ruleTerms) (nv a_ruleLengths))
    (H : ∀ (he ta em pl fo re : Nat → Int32), xLaid (nv a_ruleTerms) (nv a_ruleLengths) 4 pl fo re → post (f_productionCount, f_textLength, f_anythingBuilt, f_tokenCount, f_parseValue, f_parsePlace, a_ruleTerms, a_ruleLengths, a_skips, a_grammar, a_ranks, a_groupings, a_text, he, ta, em, pl, fo, re, a_sets, a_steps, a_classes, a_finerClasses, a_states, a_moves, a_begins, a_lookaheads, a_builtCounts, a_builtSteps, a_builtMatches, a_builtSkips, a_builtGrammar, a_builtMoves, a_builtActions, a_tokenRules, a_tokenBegins, a_tokenEnds, a_stackStates, a_stackValues)) :
    ∀ d r (he ta em pl fo re : Nat → Int32), r + d = 4 → xLaid (nv a_ruleTerms) (nv a_ruleLengths) r pl fo re → wX_layOutRules_25 post (d + 1) (nI (lcn (nv a_ruleTerms) (nv a_ruleLengths) (8 * r))) (nI r) f_productionCount f_textLength f_anythingBuilt f_tokenCount f_parseValue f_parsePlace a_ruleTerms a_ruleLengths a_skips a_grammar a_ranks a_groupings a_text he ta em pl fo re a_sets a_steps a_classes a_finerClasses a_states a_moves a_begins a_lookaheads a_builtCounts a_builtSteps a_builtMatches a_builtSkips a_builtGrammar a_builtMoves a_builtActions a_tokenRules a_tokenBegins a_tokenEnds a_stackStates a_stackValues := by
  intro d
  induction d with
  | zero =>
    intro r he ta em pl fo re hr h
    have : r = 4 := by omega
    subst this
    exact pk_le 4 4 (fun _ => H he ta em pl fo re h) (fun z => absurd z (by omega))
  | succ d ih =>
    intro r he ta em pl fo re hr h
    obtain ⟨z, hz, ez⟩ := hru.2 r
    have ezn : nv a_ruleLengths r = z := by unfold nv; rw [ez]; exact nI_clamp (by omega)
    have c1 : (nI r).toNatClampNeg = r := nI_clamp (by omega)
    have ir : vp_in (nI r) 4 := vp_in_nI (by omega) (by omega)
    have hwr := hw.2.2 r (by omega)
    rw [ezn] at hwr
    have e8 : lcn (nv a_ruleTerms) (nv a_ruleLengths) (8 * (r + 1)) = lcn (nv a_ruleTerms) (nv a_ruleLengths) (8 * r + z) := by
      have := lcn_e (tm := nv a_ruleTerms) (sz := nv a_ruleLengths) (r := r) (by omega) (8 - z) (by omega)
      rw [ezn, show 8 * r + (z + (8 - z)) = 8 * (r + 1) by omega] at this
      exact this
    have hm := lcn_m (tm := nv a_ruleTerms) (sz := nv a_ruleLengths) (8 * r) z
    obtain ⟨h1, h2, h3, h4⟩ := h
    refine pk_le 4 r (fun z => absurd z (by omega)) (fun _ => ⟨ir, ?_⟩)
    rw [c1, ez]
    refine nm_e ⟨ir, pk_le z 0 (fun z0 => nm_r (nI_1 r) ?_) (fun z0 => ?_)⟩
    · have : z = 0 := by omega
      subst this
      have e9 : lcn (nv a_ruleTerms) (nv a_ruleLengths) (8 * (r + 1)) = lcn (nv a_ruleTerms) (nv a_ruleLengths) (8 * r) := e8
      rw [← e9]
      refine ih (r + 1) he ta em pl fo _ (by omega) ⟨fun q hq => ?_, ?_, fun p hp => ?_, fun q hq hl => ?_⟩
      · rw [e9]
        have : gG (nv a_ruleTerms) (nv a_ruleLengths) (r + 1) = gG (nv a_ruleTerms) (nv a_ruleLengths) r := by
          show (gl _ _ _ (nv a_ruleLengths r)).2.2.2 = _
          rw [ezn]; rfl
        rw [this]; exact h1 q hq
      · rw [e9]
        refine rp_cg h2 (fun q _ => ?_)
        show _ = (sta (nv a_ruleTerms) (nv a_ruleLengths) r q || FR (nv a_ruleTerms) (nv a_ruleLengths) r q)
        unfold FR; rw [ezn]; simp
      · rw [e9]
        by_cases e : p = r
        · subst e; rw [pk_us]
          refine ⟨fun q _ => ?_, fun i _ => b_0 i⟩
          rw [b_0]; unfold TR; rw [ezn]; simp
        · rw [pk_un e]; exact h3 p (by omega)
      · refine h4 q ?_ hl
        have := (lc_i.mp hl).2.1
        by_cases e : q / 8 = r
        · rw [e, ezn] at this; omega
        · omega
    · have d1 : dp (nv a_ruleTerms) (8 * r) z = 1 := hwr.2.resolve_left (by omega)
      refine ⟨z + 1, xr_8 (a_ruleEnds := upd re r 0) (fo0 := fo) (by omega) hru hw ez hz (fun he' ta' em' pl' fo' h' hp' hf' => ?_) z 0 he ta em pl fo (by omega) ⟨fun e he => absurd he (Nat.not_lt_zero _), fun e he => absurd he (Nat.not_lt_zero _), fun e he => absurd he (Nat.not_lt_zero _), h1⟩ h4 (fun _ _ => rfl)⟩
      dsimp only
      refine nm_e ⟨ir, nm_e (nm_r (nI_1 r) ?_)⟩
      rw [← e8] at h' ⊢
      rw [d1] at h'
      refine ih (r + 1) he' ta' em' pl' _ _ (by omega) ⟨fun q hq => ?_, ?_, fun p hp => ?_, fun q hq hl => ?_⟩
      · have h16 := lc_16 hw hq
        rw [pk_un (by omega)]
        have := h'.2.2.2 q hq
        have e3 : gG (nv a_ruleTerms) (nv a_ruleLengths) (r + 1) = (gl (nv a_ruleTerms) (8 * r) (gG (nv a_ruleTerms) (nv a_ruleLengths) r) z).2.2.2 := by
          show (gl _ _ _ (nv a_ruleLengths r)).2.2.2 = _
          rw [ezn]
        rw [e3]; exact this
      · rw [pk_us, hf' 16 (by omega)]
        refine rp_cg (rp_or (rp_us h2 (by omega)) (h'.1 0 (by omega))) (fun q _ => ?_)
        show _ = (sta (nv a_ruleTerms) (nv a_ruleLengths) r q || FR (nv a_ruleTerms) (nv a_ruleLengths) r q)
        unfold FR; rw [ezn]; simp [z0]
      · by_cases e : p = r
        · subst e; rw [pk_us]
          refine rp_cg (h'.2.1 0 (by omega)) (fun q _ => ?_)
          unfold TR; rw [ezn]; simp [z0]
        · rw [pk_un e, pk_un e]; exact rp_us (h3 p (by omega)) (by omega)
      · refine hp' q ?_ hl
        have := (lc_i.mp hl).2.1
        by_cases e : q / 8 = r
        · rw [e, ezn] at this; omega
        · omega
theorem xl_2 {post : SX → Prop} (hru : ru_ok a_ruleTerms a_ruleLengths) (hw : rwf (nv a_ruleTerms) (nv a_ruleLengths))
    (H : ∀ (he ta em pl fo re : Nat → Int32), xLaid (nv a_ruleTerms) (nv a_ruleLengths) 4 pl fo re → post (f_productionCount, f_textLength, f_anythingBuilt, f_tokenCount, f_parseValue, f_parsePlace, a_ruleTerms, a_ruleLengths, a_skips, a_grammar, a_ranks, a_groupings, a_text, he, ta, em, pl, fo, re, a_sets, a_steps, a_classes, a_finerClasses, a_states, a_moves, a_begins, a_lookaheads, a_builtCounts, a_builtSteps, a_builtMatches, a_builtSkips, a_builtGrammar, a_builtMoves, a_builtActions, a_tokenRules, a_tokenBegins, a_tokenEnds, a_stackStates, a_stackValues)) :
    ∀ d p (fo : Nat → Int32), p + d = 17 → (∀ k, k < p → fo k = 0) → wX_layOutRules_2 post f_productionCount f_textLength f_anythingBuilt f_tokenCount f_parseValue f_parsePlace (d + 1) (nI p) a_ruleTerms a_ruleLengths a_skips a_grammar a_ranks a_groupings a_text a_heads a_tails a_empties a_placeLetters fo a_ruleEnds a_sets a_steps a_classes a_finerClasses a_states a_moves a_begins a_lookaheads a_builtCounts a_builtSteps a_builtMatches a_builtSkips a_builtGrammar a_builtMoves a_builtActions a_tokenRules a_tokenBegins a_tokenEnds a_stackStates a_stackValues := by
  intro d
  induction d with
  | zero =>
    intro p fo hp h
    have : p = 17 := by omega
    subst this
    have z0 : ∀ {F : Nat → Bool} {k : Nat}, k < 17 → (∀ q, F q = false) → rpB (lcB (nv a_ruleTerms) (nv a_ruleLengths)) (lcn (nv a_ruleTerms) (nv a_ruleLengths)) 0 (fo k) F := fun hk hF => ⟨fun q _ => by rw [h _ hk, b_0, hF q], fun i _ => by rw [h _ hk, b_0]⟩
    exact pk_le 17 17 (fun _ => ⟨5, xl_25 hru hw H 4 0 a_heads a_tails a_empties a_placeLetters fo a_ruleEnds (by omega) ⟨fun q hq => z0 (by have := lc_16 hw hq; omega) (fun _ => rfl), z0 (by omega) (fun _ => rfl), fun r hr => absurd hr (Nat.not_lt_zero _), fun q hq => absurd hq (Nat.not_lt_zero _)⟩⟩) (fun z => absurd z (by omega))
  | succ d ih =>
    intro p fo hp h
    refine pk_le 17 p (fun z => absurd z (by omega)) (fun _ => ⟨vp_in_nI (by omega) (by omega), ?_⟩)
    rw [nI_clamp (show p < 2 ^ 31 by omega)]
    refine nm_e (nm_r (nI_1 p) (ih (p + 1) _ (by omega) (fun k hk => ?_)))
    by_cases e : k = p
    · subst e; exact pk_us
    · rw [pk_un e]; exact h k (by omega)
theorem x_lay {post : SX → Prop} (hru : ru_ok a_ruleTerms a_ruleLengths) (hw : rwf (nv a_ruleTerms) (nv a_ruleLengths))
    (H : ∀ (he ta em pl fo re : Nat → Int32), xLaid (nv a_ruleTerms) (nv a_ruleLengths) 4 pl fo re → post (f_productionCount, f_textLength, f_anythingBuilt, f_tokenCount, f_parseValue, f_parsePlace, a_ruleTerms, a_ruleLengths, a_skips, a_grammar, a_ranks, a_groupings, a_text, he, ta, em, pl, fo, re, a_sets, a_steps, a_classes, a_finerClasses, a_states, a_moves, a_begins, a_lookaheads, a_builtCounts, a_builtSteps, a_builtMatches, a_builtSkips, a_builtGrammar, a_builtMoves, a_builtActions, a_tokenRules, a_tokenBegins, a_tokenEnds, a_stackStates, a_stackValues)) : wpX_layOutRules post (f_productionCount, f_textLength, f_anythingBuilt, f_tokenCount, f_parseValue, f_parsePlace, a_ruleTerms, a_ruleLengths, a_skips, a_grammar, a_ranks, a_groupings, a_text, a_heads, a_tails, a_empties, a_placeLetters, a_followers, a_ruleEnds, a_sets, a_steps, a_classes, a_finerClasses, a_states, a_moves, a_begins, a_lookaheads, a_builtCounts, a_builtSteps, a_builtMatches, a_builtSkips, a_builtGrammar, a_builtMoves, a_builtActions, a_tokenRules, a_tokenBegins, a_tokenEnds, a_stackStates, a_stackValues) :=
  ⟨18, xl_2 hru hw H 17 0 a_followers (by omega) (fun k hk => absurd hk (Nat.not_lt_zero _))⟩
end
