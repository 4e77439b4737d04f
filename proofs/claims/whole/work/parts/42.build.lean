/-! build -/
theorem i_vc_build {k : Nat} {u : SX} {v : SY} (I : i_Rel k u v) (hk : k + 5 ≤ 2560) : wpX_build (fun r u' => wpY_build (fun r' v' => r' = r ∧ i_Rel (k + 5) u' v') v) u := by
  obtain ⟨f_productionCount, f_textLength, f_anythingBuilt, f_tokenCount, f_parseValue, f_parsePlace, a_ruleTerms, a_ruleLengths, a_skips, a_grammar, a_ranks, a_groupings, a_text, a_heads, a_tails, a_empties, a_placeLetters, a_followers, a_ruleEnds, a_sets, a_steps, a_classes, a_finerClasses, a_states, a_moves, a_begins, a_lookaheads, a_builtCounts, a_builtSteps, a_builtMatches, a_builtSkips, a_builtGrammar, a_builtMoves, a_builtActions, a_tokenRules, a_tokenBegins, a_tokenEnds, a_stackStates, a_stackValues⟩ := u
  obtain ⟨g_productions, g_start, g_sets, g_states, g_conflicts, g_ready, g_length, g_tokens, g_stuck, g_scanned, g_value, g_place, b_term, b_size, b_skipped, b_left, b_right, b_width, b_op, b_constant, b_rank, b_grouping, b_bTerm, b_bSize, b_bSkipped, b_bLeft, b_bWidth, b_bOp, b_bConstant, b_follow, b_ends, b_first, b_last, b_none, b_set, b_leads, b_apart, b_state, b_to, b_look, b_begins, b_nullable, b_act, b_built, b_leadTo, b_text, b_fits, b_token, b_stack, b_worth⟩ := v
  have I0 := I
  obtain ⟨rfl, rfl, rfl, rfl, rfl, rfl, rfl, rfl, ⟨hru, hrub⟩, hg, ht, hb⟩ := I
  obtain ⟨pc, L, W, R, rfl, rfl, hV, hX, hY, hOp⟩ := hg
  have hg : rg (nI pc) (nI pc) a_grammar b_left b_right b_width b_op b_constant := ⟨pc, L, W, R, rfl, rfl, hV, hX, hY, hOp⟩
  have nT : ∀ k, nv a_ruleTerms k < 10 := fun k => by
    obtain ⟨t, ht, e⟩ := hru.1 k
    unfold nv; rw [e, nI_clamp (by omega)]; exact ht
  have nS : ∀ r, nv a_ruleLengths r ≤ 8 := fun r => by
    obtain ⟨t, ht, e⟩ := hru.2 r
    unfold nv; rw [e, nI_clamp (by omega)]; exact ht
  unfold wpX_build
  dsimp only
  refine xfit hru (fun hwf => ?_) (fun hno => br_t rfl (yb_2 hru (fun h => absurd h hno) (fun _ => ⟨rfl, I0⟩)))
  have hw : rwf (nv a_ruleTerms) (nv a_ruleLengths) := ⟨nT, nS, hwf⟩
  have hyc := yl_can hw
  generalize mkI (sta (nv a_ruleTerms) (nv a_ruleLengths) 4) 32 = start0 at hyc
  generalize (fun r => mkI (TR (nv a_ruleTerms) (nv a_ruleLengths) r) 32) = ends0 at hyc
  generalize (fun p => mkI (gG (nv a_ruleTerms) (nv a_ruleLengths) 4 p) 32) = fo0 at hyc
  refine br_f (by decide) (x_lay hru hw (fun he ta em pl fo re hx => ?_))
  dsimp only
  refine x_sets hw hx hyc (G0 := vp_updL b_set 0 0) (M0 := b_leads) ul_s (fun hB1 sx mx => ?_) (fun b1 sx mx hB1 hSR => ?_)
  · dsimp only
    refine x_states hV hX (G0 := vp_updL b_state 0 (st0 pc L W R)) (M0 := b_to) ul_s (fun hB2 sx2 mx2 => ?_) (fun b2 sx2 mx2 hB2 hSS => ?_)
    · dsimp only
      exact br_t rfl (yb_f1 hru hw hyc hB1 (fun st n fo en fi la no se le => ⟨rfl, rl_mk rfl rfl rfl rfl rfl rfl rfl rfl ⟨hru, hrub⟩ hg ht hb⟩))
    · dsimp only
      exact br_t rfl (yb_f1 hru hw hyc hB1 (fun st n fo en fi la no se le => ⟨rfl, rl_mk rfl rfl rfl rfl rfl rfl rfl rfl ⟨hru, hrub⟩ hg ht hb⟩))
  dsimp only
  obtain ⟨⟨i1, i2, i3, i4⟩, i5⟩ := bf_i (b0 := (1, vp_updL b_set 0 0, b_leads)) rfl (by omega) 61 b1 hB1
  refine x_states hV hX (G0 := vp_updL b_state 0 (st0 pc L W R)) (M0 := b_to) ul_s (fun hB2 sx2 mx2 => ?_) (fun b2 sx2 mx2 hB2 hSS => ?_)
  · dsimp only
    exact br_f (zn_ne1 (by omega)) (br_t rfl (yb_f2 hru hw hyc hB1 hV hY hB2 (fun st n m fo en fi la no se le sa to => ⟨rfl, rl_mk rfl rfl rfl rfl rfl rfl rfl rfl ⟨hru, hrub⟩ hg ht hb⟩)))
  dsimp only
  obtain ⟨s1, s2, s3, s34, sMv, sT, sC, sz0, s32, sE⟩ := st_f hV (b0 := (1, vp_updL b_state 0 (st0 pc L W R), b_to)) rfl (show vp_updL b_state 0 (st0 pc L W R) 0 = _ from ul_s) hB2
  have hz : LW (fun _ => 0, fun _ => 0) := fun n _ => ⟨low_0, Or.inl rfl⟩
  have hH : laH pc b2.1 L W R (itr (rnd L W R pc) 8 (fun _ => 0, fun _ => 0)) b2.2.1 b2.2.2 := ⟨hV, LW_i hz hV 8, s2, s34, sT⟩
  obtain ⟨N, hN, hN1, hN2⟩ := la_end hH
  have hO : stO b1.2.2 b1.1 := by
    intro s l hs hl
    rcases i3 s l hs hl (Or.inl (by omega)) with z | ⟨_, k, z2, _, z4⟩
    · exact Or.inl z.2
    · exact Or.inr ⟨k, z2, z4⟩
  have hs0 := start_1 hw hyc (b0 := (1, vp_updL b_set 0 0, b_leads)) rfl (show vp_updL b_set 0 0 0 = 0 from ul_s) hB1
  obtain ⟨K, K1, K61, hK, hKL⟩ := Nc_end (st := b1.2.2) (mt := fun s => mtc ends0 (b1.2.1 s) 4 0) i1 i2
  obtain ⟨q1, q2, q3, q4⟩ := hSR
  have hM : ∀ s x, s < b2.1 → sym x → mx2 (13 * s + x) = b2.2.2 (7 * s + col x) := fun s x hs hx => (hSS.2 s x (by rcases hx with z | z <;> omega) (Or.inl hs)).1 hx
  have hM4 : ∀ s, s < b2.1 → mx2 (13 * s + 4) = -1 := fun s hs => (hSS.2 s 4 (by omega) (Or.inl hs)).2 (by unfold sym; omega)
  have hMq : ∀ s x, s < b2.1 → sym x → b2.2.2 (7 * s + col x) = -1 ∨ ∃ q, q < b2.1 ∧ b2.2.2 (7 * s + col x) = nI q := by
    intro s x hs hx
    rcases sMv s x hs hx with z | ⟨t, _, z2, z3, _⟩
    · exact Or.inl z
    · exact Or.inr ⟨t, z2, z3⟩
  refine br_f (zn_ne1 (by omega)) (br_f (zn_ne1 (by omega)) (x_keepS (a_sets := sx) (a_ruleEnds := re) (c := b1.1) (en := ends0) (w := b1.2.1) i2 (fun s hs r hr => ends_i hw hx hyc ?_ hr) (fun bm bst bsk h1 h2 h3 => ?_)))
  · by_cases e : s = 0
    · subst e; exact Or.inl ⟨q1, q2⟩
    · exact Or.inr (q3 s (by omega) hs)
  dsimp only
  refine nm_e ?_
  have cls : ∀ (Q : Int32 → SX → Prop), (∀ cl fi : Nat → Int32, Q (nI (if b1.1 = 1 then 0 else Nc b1.2.2 (fun s => mtc ends0 (b1.2.1 s) 4 0) b1.1 K)) (nI pc, f_textLength, f_anythingBuilt, f_tokenCount, f_parseValue, f_parsePlace, a_ruleTerms, a_ruleLengths, a_skips, a_grammar, a_ranks, a_groupings, a_text, he, ta, em, pl, fo, re, sx, mx, cl, fi, sx2, mx2, a_begins, a_lookaheads, upd a_builtCounts 0 (nI b1.1 - 1), bst, bm, bsk, a_builtGrammar, a_builtMoves, a_builtActions, a_tokenRules, a_tokenBegins, a_tokenEnds, a_stackStates, a_stackValues)) →
      wpX_countClasses Q (nI pc, f_textLength, f_anythingBuilt, f_tokenCount, f_parseValue, f_parsePlace, a_ruleTerms, a_ruleLengths, a_skips, a_grammar, a_ranks, a_groupings, a_text, he, ta, em, pl, fo, re, sx, mx, a_classes, a_finerClasses, sx2, mx2, a_begins, a_lookaheads, upd a_builtCounts 0 (nI b1.1 - 1), bst, bm, bsk, a_builtGrammar, a_builtMoves, a_builtActions, a_tokenRules, a_tokenBegins, a_tokenEnds, a_stackStates, a_stackValues) (nI b1.1) := by
    intro Q hQ
    by_cases c1 : b1.1 = 1
    · have h' := hQ a_classes a_finerClasses
      rw [if_pos c1] at h'
      exact br_t (by rw [c1]; rfl) h'
    · have h' := hQ
      rw [if_neg c1] at h'
      exact xcc (a_steps := mx) (a_builtMatches := bm) (c := b1.1) (by omega) i2 hO q4 h1 K1 K61 hK hKL h'
  refine cls _ (fun cl fi => ?_)
  dsimp only
  refine nm_e (x_begins hV hX (fun xb hxb => ?_))
  dsimp only
  refine x_look (a_moves := mx2) (a_states := sx2) (a_begins := xb) hH hX hxb hM hSS.1 hN hN1 hN2 (fun lo hlo => ?_)
  dsimp only
  refine x_keepP (fun bmv bgr k1 k2 => ?_)
  dsimp only
  refine nm_e (xka (a_moves := mx2) (a_states := sx2) (a_lookaheads := lo) (ns := b2.1) s2 hV hX hSS.1 hlo hM hM4 (fun ac hac => ?_))
  dsimp only
  refine nm_e ?_
  refine yb_ok hru hw hyc hB1 hV hY hB2 hH hN1 hN2 sE (fun s t hs ht => ?_) hO ⟨i1, i2⟩ hs0 hK (fun st fo' en fi' la no yb ny lo' ac' lt ap bT bS bSk bL bW bO bC w1 w2 w3 w4 w5 w6 => ⟨rfl, rl_mk rfl rfl rfl rfl rfl rfl rfl rfl ⟨hru, ?_⟩ hg ht (Or.inr ⟨rfl, rfl, fun r hr => ?_, fun r hr => ?_, ?_, ?_, Or.inl rfl⟩)⟩)
  · have := hMq s t hs (Or.inl ht)
    unfold col at this
    rw [if_pos ht] at this
    rcases this with z | ⟨q, z1, z2⟩
    · exact Or.inl z
    · exact Or.inr ⟨q, by omega, z2⟩
  · refine ⟨fun k => ?_, fun r => ?_⟩
    · by_cases c : k < 32
      · rw [(w3 k).1 c]; exact hru.1 k
      · rw [(w3 k).2 (by omega)]; exact hrub.1 k
    · by_cases c : r < 4
      · rw [(w4 r).1 c]; exact hru.2 r
      · rw [(w4 r).2 (by omega)]; exact hrub.2 r
  · have : r = 0 ∨ r = 1 ∨ r = 2 ∨ r = 3 := by omega
    rcases this with rfl | rfl | rfl | rfl
    · rfl
    · rfl
    · rfl
    · rfl
  · rw [w5 r hr, h3 r hr]
  · refine sc_mk hw hyc (b0 := (1, vp_updL b_set 0 0, b_leads)) rfl (show vp_updL b_set 0 0 0 = 0 from ul_s) hB1 (fun j hj => ?_) h1 ?_ (fun k hk => ?_) (fun r hr => ?_)
    · rw [h2 j (by omega)]; exact q4 j hj
    · refine ⟨fun k => ?_, fun r => ?_⟩
      · by_cases c : k < 32
        · rw [(w3 k).1 c]; exact hru.1 k
        · rw [(w3 k).2 (by omega)]; exact hrub.1 k
      · by_cases c : r < 4
        · rw [(w4 r).1 c]; exact hru.2 r
        · rw [(w4 r).2 (by omega)]; exact hrub.2 r
    · unfold nv; rw [(w3 k).1 hk]
    · unfold nv; rw [(w4 r).1 hr]
  · refine ⟨b2.1, fun s j => bl (b2.2.1 s) j, L, W, s1, s2, fun p => ⟨(hV.2.1 p).2.1, (hV.2.1 p).1⟩, fun p hp => ?_, fun s x hs hx => ?_, fun s p hs hp hS => ?_, sz0, s32, fun s t hs ht => ?_⟩
    · obtain ⟨x1, x2, -⟩ := hX p (by omega)
      obtain ⟨y1, y2, -⟩ := hY p (by omega)
      obtain ⟨o1, o2, o3⟩ := hOp p hp
      obtain ⟨v1, v2, v3, v4⟩ := w6 p hp
      rw [k2 _ (by omega), k2 _ (by omega), k2 _ (by omega), k2 _ (by omega), v1, v2, v3, v4]
      exact ⟨x1, x2, y1, y2, o1, o2, o3⟩
    · have hx13 : x < 13 := by rcases hx with z | z <;> omega
      have hc7 := (col_s hx).1
      rw [k1 _ (by omega), hM s x hs hx, w2 _ (by omega)]
      rcases sMv s x hs hx with z | ⟨t, z1, z2, z3, z4⟩
      · exact Or.inl ⟨z, z⟩
      · exact Or.inr ⟨t, z1, z2, z3, z3, z4⟩
    · obtain ⟨p1, p2⟩ := sC s p hs hp hS
      have hL := hV.2.2.1 p p1
      refine ⟨hL, ?_⟩
      rw [k1 _ (by omega), hM s (L p) hs (Or.inr hL)]
      exact p2
    · have e1 : (5 * s + t) / 5 = s := by omega
      have e2 : (5 * s + t) % 5 = t := by omega
      rw [hac _ (by omega), w1 _ (by omega), e1, e2]
      refine ac_mk hV s2 hs ht (fun x hx => ?_) (fun x hx => hMq s x hs hx)
      have hx13 : x < 13 := by rcases hx with z | z <;> omega
      rw [k1 _ (by omega)]
      exact hM s x hs hx
