/-! the reference's places -/
def b2 (x : Bool) : Int32 := if x then 1 else 0
theorem b2_0 {x : Bool} : b2 x = 0 ↔ x = false := by cases x <;> decide
def RYs (s : (Nat → Nat → Bool) × (Nat → Nat → Bool) × (Nat → Bool) × (Nat → Nat → Bool)) (d : Nat) (fi la : Nat → Int64) (no : Nat → Int32) (fo : Nat → Int64) : Prop :=
  (∀ e, e < d → ∀ q, bl (fi e) q = s.1 e q) ∧ (∀ e, e < d → ∀ q, bl (la e) q = s.2.1 e q) ∧ (∀ e, e < d → no e = b2 (s.2.2.1 e)) ∧ (∀ p, p < 32 → ∀ q, bl (fo p) q = s.2.2.2 p q)
theorem ul_s {f : Nat → Int64} {k : Nat} {x : Int64} : vp_updL f k x k = x := if_pos rfl
theorem ul_n {f : Nat → Int64} {k j : Nat} {x : Int64} (h : j ≠ k) : vp_updL f k x j = f j := if_neg h
section
variable {g_productions : Int32} {g_start : Int64} {g_sets g_states g_conflicts g_ready g_length g_tokens g_stuck g_scanned g_value g_place : Int32} {b_term b_size b_skipped b_left b_right b_width b_op b_constant b_rank b_grouping b_bTerm b_bSize b_bSkipped b_bLeft b_bWidth b_bOp b_bConstant : Nat → Int32} {b_follow b_ends b_first b_last : Nat → Int64} {b_none : Nat → Int32} {b_set : Nat → Int64} {b_leads b_apart : Nat → Int32} {b_state : Nat → Int64} {b_to b_look b_begins b_nullable b_act b_built b_leadTo b_text b_fits b_token b_stack b_worth : Nat → Int32} {post : SY → Prop}
theorem yk_3 {x y : Int64} {f0 : Nat → Int64} (H : ∀ fo : Nat → Int64, (∀ p, p < 32 → ∀ q, bl (fo p) q = (bl (f0 p) q || (bl x p && bl y q))) → post (g_productions, g_start, g_sets, g_states, g_conflicts, g_ready, g_length, g_tokens, g_stuck, g_scanned, g_value, g_place, b_term, b_size, b_skipped, b_left, b_right, b_width, b_op, b_constant, b_rank, b_grouping, b_bTerm, b_bSize, b_bSkipped, b_bLeft, b_bWidth, b_bOp, b_bConstant, fo, b_ends, b_first, b_last, b_none, b_set, b_leads, b_apart, b_state, b_to, b_look, b_begins, b_nullable, b_act, b_built, b_leadTo, b_text, b_fits, b_token, b_stack, b_worth)) :
    ∀ d p (fo : Nat → Int64), p + d = 32 → (∀ k, k < p → ∀ q, bl (fo k) q = (bl (f0 k) q || (bl x k && bl y q))) → (∀ k, p ≤ k → fo k = f0 k) → wY_chain_3 post x y g_productions g_start g_sets g_states g_conflicts g_ready g_length g_tokens g_stuck g_scanned g_value g_place (d + 1) (nI p) b_term b_size b_skipped b_left b_right b_width b_op b_constant b_rank b_grouping b_bTerm b_bSize b_bSkipped b_bLeft b_bWidth b_bOp b_bConstant fo b_ends b_first b_last b_none b_set b_leads b_apart b_state b_to b_look b_begins b_nullable b_act b_built b_leadTo b_text b_fits b_token b_stack b_worth := by
  intro d
  induction d with
  | zero =>
    intro p fo hp h1 h2
    have : p = 32 := by omega
    subst this
    exact pk_le 32 32 (fun _ => H fo h1) (fun z => absurd z (by omega))
  | succ d ih =>
    intro p fo hp h1 h2
    have ip : vp_in (nI p) 32 := vp_in_nI (by omega) (by omega)
    refine pk_le 32 p (fun z => absurd z (by omega)) (fun _ => zb_b1 p (fun hb => ⟨ip, ip, ?_⟩) (fun hb => nm_r (nI_1 p) (ih (p + 1) fo (by omega) ?_ (fun k hk => h2 k (by omega)))))
    · rw [nI_clamp (show p < 2 ^ 31 by omega)]
      refine nm_e (nm_r (nI_1 p) (ih (p + 1) _ (by omega) ?_ ?_))
      · intro k hk q
        by_cases e : k = p
        · subst e; rw [ul_s, zb_or, h2 k (Nat.le_refl _), hb, Bool.true_and]
        · rw [ul_n e]; exact h1 k (by omega) q
      · intro k hk
        rw [ul_n (by omega)]; exact h2 k (by omega)
    · intro k hk q
      by_cases e : k = p
      · subst e; rw [h2 k (Nat.le_refl _), hb]; simp
      · exact h1 k (by omega) q
theorem yk_ {x y : Int64} (H : ∀ fo : Nat → Int64, (∀ p, p < 32 → ∀ q, bl (fo p) q = (bl (b_follow p) q || (bl x p && bl y q))) → post (g_productions, g_start, g_sets, g_states, g_conflicts, g_ready, g_length, g_tokens, g_stuck, g_scanned, g_value, g_place, b_term, b_size, b_skipped, b_left, b_right, b_width, b_op, b_constant, b_rank, b_grouping, b_bTerm, b_bSize, b_bSkipped, b_bLeft, b_bWidth, b_bOp, b_bConstant, fo, b_ends, b_first, b_last, b_none, b_set, b_leads, b_apart, b_state, b_to, b_look, b_begins, b_nullable, b_act, b_built, b_leadTo, b_text, b_fits, b_token, b_stack, b_worth)) : wpY_chain post (g_productions, g_start, g_sets, g_states, g_conflicts, g_ready, g_length, g_tokens, g_stuck, g_scanned, g_value, g_place, b_term, b_size, b_skipped, b_left, b_right, b_width, b_op, b_constant, b_rank, b_grouping, b_bTerm, b_bSize, b_bSkipped, b_bLeft, b_bWidth, b_bOp, b_bConstant, b_follow, b_ends, b_first, b_last, b_none, b_set, b_leads, b_apart, b_state, b_to, b_look, b_begins, b_nullable, b_act, b_built, b_leadTo, b_text, b_fits, b_token, b_stack, b_worth) x y :=
  ⟨33, yk_3 (f0 := b_follow) H 32 0 b_follow (by omega) (fun k hk => absurd hk (by omega)) (fun _ _ => rfl)⟩
theorem yg_ {x1 : Int32} {n t c d : Nat} {s : (Nat → Nat → Bool) × (Nat → Nat → Bool) × (Nat → Bool) × (Nat → Nat → Bool)} (ht : t < 10) (hc : c < 32) (hd : d ≤ 4) (htk : tk t ≤ d) (h : RYs s d b_first b_last b_none b_follow)
    (J : ∀ (fi la : Nat → Int64) (no : Nat → Int32) (fo : Nat → Int64), RYs (gst t c d s) (d + 1 - tk t) fi la no fo → wY_placesOf_7 post x1 n (nI (d + 1 - tk t)) (nI (c + 1)) g_productions g_start g_sets g_states g_conflicts g_ready g_length g_tokens g_stuck g_scanned g_value g_place b_term b_size b_skipped b_left b_right b_width b_op b_constant b_rank b_grouping b_bTerm b_bSize b_bSkipped b_bLeft b_bWidth b_bOp b_bConstant fo b_ends fi la no b_set b_leads b_apart b_state b_to b_look b_begins b_nullable b_act b_built b_leadTo b_text b_fits b_token b_stack b_worth) :
    wpY_takes (fun r_11 => ∀ x2_62, x2_62 = nI d - r_11 → ((5 ≤ nI t → (((nI t = 5 → (vp_in x2_62 8 ∧ (vp_in (x2_62 + 1) 8 ∧ (wpY_chain (fun u => match u with | (g_productions, g_start, g_sets, g_states, g_conflicts, g_ready, g_length, g_tokens, g_stuck, g_scanned, g_value, g_place, b_term, b_size, b_skipped, b_left, b_right, b_width, b_op, b_constant, b_rank, b_grouping, b_bTerm, b_bSize, b_bSkipped, b_bLeft, b_bWidth, b_bOp, b_bConstant, b_follow, b_ends, b_first, b_last, b_none, b_set, b_leads, b_apart, b_state, b_to, b_look, b_begins, b_nullable, b_act, b_built, b_leadTo, b_text, b_fits, b_token, b_stack, b_worth) => (vp_in x2_62 8 ∧ ((((b_none x2_62.toNatClampNeg) = 0 → (wY_placesOf_123 post (wY_placesOf_7 post x1 n) x1 x2_62 (nI c) g_productions g_start g_sets g_states g_conflicts g_ready g_length g_tokens g_stuck g_scanned g_value g_place b_term b_size b_skipped b_left b_right b_width b_op b_constant b_rank b_grouping b_bTerm b_bSize b_bSkipped b_bLeft b_bWidth b_bOp b_bConstant b_follow b_ends b_first b_last b_none b_set b_leads b_apart b_state b_to b_look b_begins b_nullable b_act b_built b_leadTo b_text b_fits b_token b_stack b_worth)) ∧ (¬ (b_none x2_62.toNatClampNeg) = 0 → (vp_in x2_62 8 ∧ (vp_in (x2_62 + 1) 8 ∧ (vp_in x2_62 8 ∧ ∀ a_first_232, a_first_232 = vp_updL b_first x2_62.toNatClampNeg ((b_first x2_62.toNatClampNeg) ||| (b_first (x2_62 + 1).toNatClampNeg)) → (wY_placesOf_123 post (wY_placesOf_7 post x1 n) x1 x2_62 (nI c) g_productions g_start g_sets g_states g_conflicts g_ready g_length g_tokens g_stuck g_scanned g_value g_place b_term b_size b_skipped b_left b_right b_width b_op b_constant b_rank b_grouping b_bTerm b_bSize b_bSkipped b_bLeft b_bWidth b_bOp b_bConstant b_follow b_ends a_first_232 b_last b_none b_set b_leads b_apart b_state b_to b_look b_begins b_nullable b_act b_built b_leadTo b_text b_fits b_token b_stack b_worth))))))))) (g_productions, g_start, g_sets, g_states, g_conflicts, g_ready, g_length, g_tokens, g_stuck, g_scanned, g_value, g_place, b_term, b_size, b_skipped, b_left, b_right, b_width, b_op, b_constant, b_rank, b_grouping, b_bTerm, b_bSize, b_bSkipped, b_bLeft, b_bWidth, b_bOp, b_bConstant, b_follow, b_ends, b_first, b_last, b_none, b_set, b_leads, b_apart, b_state, b_to, b_look, b_begins, b_nullable, b_act, b_built, b_leadTo, b_text, b_fits, b_token, b_stack, b_worth) (b_last x2_62.toNatClampNeg) (b_first (x2_62 + 1).toNatClampNeg))))) ∧
      (¬ nI t = 5 → (((nI t = 6 → (vp_in x2_62 8 ∧ (vp_in (x2_62 + 1) 8 ∧ (vp_in x2_62 8 ∧ ∀ a_first_130, a_first_130 = vp_updL b_first x2_62.toNatClampNeg ((b_first x2_62.toNatClampNeg) ||| (b_first (x2_62 + 1).toNatClampNeg)) → (vp_in x2_62 8 ∧ (vp_in (x2_62 + 1) 8 ∧ (vp_in x2_62 8 ∧ ∀ a_last_134, a_last_134 = vp_updL b_last x2_62.toNatClampNeg ((b_last x2_62.toNatClampNeg) ||| (b_last (x2_62 + 1).toNatClampNeg)) → (vp_in x2_62 8 ∧ ((((b_none x2_62.toNatClampNeg) = 0 → (vp_in (x2_62 + 1) 8 ∧ ((((b_none (x2_62 + 1).toNatClampNeg) = 0 → (vp_in x2_62 8 ∧ ∀ a_none_144, a_none_144 = upd b_none x2_62.toNatClampNeg (vp_nar .boolean 0) → (∀ x2_145, x2_145 = x2_62 + 1 → (∀ x3_146, x3_146 = nI c + 1 → (wY_placesOf_7 post x1 n x2_145 x3_146 g_productions g_start g_sets g_states g_conflicts g_ready g_length g_tokens g_stuck g_scanned g_value g_place b_term b_size b_skipped b_left b_right b_width b_op b_constant b_rank b_grouping b_bTerm b_bSize b_bSkipped b_bLeft b_bWidth b_bOp b_bConstant b_follow b_ends a_first_130 a_last_134 a_none_144 b_set b_leads b_apart b_state b_to b_look b_begins b_nullable b_act b_built b_leadTo b_text b_fits b_token b_stack b_worth))))) ∧ (¬ (b_none (x2_62 + 1).toNatClampNeg) = 0 → (vp_in x2_62 8 ∧ ∀ a_none_148, a_none_148 = upd b_none x2_62.toNatClampNeg (vp_nar .boolean 1) → (∀ x2_149, x2_149 = x2_62 + 1 → (∀ x3_150, x3_150 = nI c + 1 → (wY_placesOf_7 post x1 n x2_149 x3_150 g_productions g_start g_sets g_states g_conflicts g_ready g_length g_tokens g_stuck g_scanned g_value g_place b_term b_size b_skipped b_left b_right b_width b_op b_constant b_rank b_grouping b_bTerm b_bSize b_bSkipped b_bLeft b_bWidth b_bOp b_bConstant b_follow b_ends a_first_130 a_last_134 a_none_148 b_set b_leads b_apart b_state b_to b_look b_begins b_nullable b_act b_built b_leadTo b_text b_fits b_token b_stack b_worth))))))))) ∧ (¬ (b_none x2_62.toNatClampNeg) = 0 → (vp_in x2_62 8 ∧ ∀ a_none_138, a_none_138 = upd b_none x2_62.toNatClampNeg (vp_nar .boolean 1) → (∀ x2_139, x2_139 = x2_62 + 1 → (∀ x3_140, x3_140 = nI c + 1 → (wY_placesOf_7 post x1 n x2_139 x3_140 g_productions g_start g_sets g_states g_conflicts g_ready g_length g_tokens g_stuck g_scanned g_value g_place b_term b_size b_skipped b_left b_right b_width b_op b_constant b_rank b_grouping b_bTerm b_bSize b_bSkipped b_bLeft b_bWidth b_bOp b_bConstant b_follow b_ends a_first_130 a_last_134 a_none_138 b_set b_leads b_apart b_state b_to b_look b_begins b_nullable b_act b_built b_leadTo b_text b_fits b_token b_stack b_worth))))))))))))))) ∧
      (¬ nI t = 6 → (((9 ≤ nI t → (wY_placesOf_298 post (wY_placesOf_7 post x1 n) x1 x2_62 (nI c) (nI t) g_productions g_start g_sets g_states g_conflicts g_ready g_length g_tokens g_stuck g_scanned g_value g_place b_term b_size b_skipped b_left b_right b_width b_op b_constant b_rank b_grouping b_bTerm b_bSize b_bSkipped b_bLeft b_bWidth b_bOp b_bConstant b_follow b_ends b_first b_last b_none b_set b_leads b_apart b_state b_to b_look b_begins b_nullable b_act b_built b_leadTo b_text b_fits b_token b_stack b_worth)) ∧ (¬ 9 ≤ nI t → (vp_in x2_62 8 ∧ (vp_in x2_62 8 ∧ (wpY_chain (fun u => match u with | (g_productions, g_start, g_sets, g_states, g_conflicts, g_ready, g_length, g_tokens, g_stuck, g_scanned, g_value, g_place, b_term, b_size, b_skipped, b_left, b_right, b_width, b_op, b_constant, b_rank, b_grouping, b_bTerm, b_bSize, b_bSkipped, b_bLeft, b_bWidth, b_bOp, b_bConstant, b_follow, b_ends, b_first, b_last, b_none, b_set, b_leads, b_apart, b_state, b_to, b_look, b_begins, b_nullable, b_act, b_built, b_leadTo, b_text, b_fits, b_token, b_stack, b_worth) => (wY_placesOf_298 post (wY_placesOf_7 post x1 n) x1 x2_62 (nI c) (nI t) g_productions g_start g_sets g_states g_conflicts g_ready g_length g_tokens g_stuck g_scanned g_value g_place b_term b_size b_skipped b_left b_right b_width b_op b_constant b_rank b_grouping b_bTerm b_bSize b_bSkipped b_bLeft b_bWidth b_bOp b_bConstant b_follow b_ends b_first b_last b_none b_set b_leads b_apart b_state b_to b_look b_begins b_nullable b_act b_built b_leadTo b_text b_fits b_token b_stack b_worth)) (g_productions, g_start, g_sets, g_states, g_conflicts, g_ready, g_length, g_tokens, g_stuck, g_scanned, g_value, g_place, b_term, b_size, b_skipped, b_left, b_right, b_width, b_op, b_constant, b_rank, b_grouping, b_bTerm, b_bSize, b_bSkipped, b_bLeft, b_bWidth, b_bOp, b_bConstant, b_follow, b_ends, b_first, b_last, b_none, b_set, b_leads, b_apart, b_state, b_to, b_look, b_begins, b_nullable, b_act, b_built, b_leadTo, b_text, b_fits, b_token, b_stack, b_worth) (b_last x2_62.toNatClampNeg) (b_first x2_62.toNatClampNeg)))))))))))))) ∧
      (¬ 5 ≤ nI t → (vp_in x2_62 8 ∧ ∀ a_first_234, a_first_234 = vp_updL b_first x2_62.toNatClampNeg ((1 : Int64) <<< ((nI c).toInt64 &&& 63)) → (vp_in x2_62 8 ∧ ∀ a_last_236, a_last_236 = vp_updL b_last x2_62.toNatClampNeg ((1 : Int64) <<< ((nI c).toInt64 &&& 63)) → (vp_in x2_62 8 ∧ ∀ a_none_238, a_none_238 = upd b_none x2_62.toNatClampNeg (vp_nar .boolean 0) → (∀ x2_239, x2_239 = x2_62 + 1 → (∀ x3_240, x3_240 = nI c + 1 → (wY_placesOf_7 post x1 n x2_239 x3_240 g_productions g_start g_sets g_states g_conflicts g_ready g_length g_tokens g_stuck g_scanned g_value g_place b_term b_size b_skipped b_left b_right b_width b_op b_constant b_rank b_grouping b_bTerm b_bSize b_bSkipped b_bLeft b_bWidth b_bOp b_bConstant b_follow b_ends a_first_234 a_last_236 a_none_238 b_set b_leads b_apart b_state b_to b_look b_begins b_nullable b_act b_built b_leadTo b_text b_fits b_token b_stack b_worth))))))))) (g_productions, g_start, g_sets, g_states, g_conflicts, g_ready, g_length, g_tokens, g_stuck, g_scanned, g_value, g_place, b_term, b_size, b_skipped, b_left, b_right, b_width, b_op, b_constant, b_rank, b_grouping, b_bTerm, b_bSize, b_bSkipped, b_bLeft, b_bWidth, b_bOp, b_bConstant, b_follow, b_ends, b_first, b_last, b_none, b_set, b_leads, b_apart, b_state, b_to, b_look, b_begins, b_nullable, b_act, b_built, b_leadTo, b_text, b_fits, b_token, b_stack, b_worth) (nI t) := by
  obtain ⟨F, T, E, G⟩ := s
  obtain ⟨h1, h2, h3, h4⟩ := h
  dsimp only at h1 h2 h3 h4
  have hcc := tk_c t
  refine yta_ ht (nm_r (pk_sub htk) ?_)
  refine pk_le 5 t (fun c5 => pk_eq t 5 (fun e5 => ?_) (fun n5 => pk_eq t 6 (fun e6 => ?_) (fun n6 => ?_))) (fun c5 => ?_)
  · -- THEN
    have e2 := hcc.2.1 (Or.inl e5)
    obtain ⟨e, rfl⟩ : ∃ e, d = e + 2 := ⟨d - 2, by omega⟩
    rw [e2] at J ⊢
    rw [show e + 2 + 1 - 2 = e + 1 by omega] at J
    rw [show e + 2 - 2 = e by omega, nI_1 e, nI_clamp (show e < 2 ^ 31 by omega), nI_clamp (show e + 1 < 2 ^ 31 by omega)]
    have i0 : vp_in (nI e) 8 := vp_in_nI (by omega) (by omega)
    have i1 : vp_in (nI (e + 1)) 8 := vp_in_nI (by omega) (by omega)
    refine ⟨i0, i1, yk_ (fun fo hfo => ?_)⟩
    dsimp only
    have fin : ∀ (fi la : Nat → Int64), (∀ j, j < e → fi j = b_first j) → (∀ q, bl (fi e) q = (F e q || (E e && F (e + 1) q))) → (∀ j, j < e → la j = b_last j) → (∀ q, bl (la e) q = (T (e + 1) q || (E (e + 1) && T e q))) → ∀ no : Nat → Int32, (∀ j, j < e → no j = b_none j) → no e = b2 (E e && E (e + 1)) →
        wY_placesOf_7 post x1 n (nI (e + 1)) (nI (c + 1)) g_productions g_start g_sets g_states g_conflicts g_ready g_length g_tokens g_stuck g_scanned g_value g_place b_term b_size b_skipped b_left b_right b_width b_op b_constant b_rank b_grouping b_bTerm b_bSize b_bSkipped b_bLeft b_bWidth b_bOp b_bConstant fo b_ends fi la no b_set b_leads b_apart b_state b_to b_look b_begins b_nullable b_act b_built b_leadTo b_text b_fits b_token b_stack b_worth := by
      intro fi la f1 f2 l1 l2 no n1 n2
      refine J fi la no fo ⟨fun j hj q => ?_, fun j hj q => ?_, fun j hj => ?_, fun p hp q => ?_⟩
      · unfold gst ub
        rw [if_neg (by omega), if_pos e5, show e + 2 - 2 = e by omega, show e + 2 - 1 = e + 1 by omega]
        dsimp only
        by_cases z : j = e
        · subst z; rw [if_pos rfl]; exact f2 q
        · rw [if_neg z, f1 j (by omega)]; exact h1 j (by omega) q
      · unfold gst ub
        rw [if_neg (by omega), if_pos e5, show e + 2 - 2 = e by omega, show e + 2 - 1 = e + 1 by omega]
        dsimp only
        by_cases z : j = e
        · subst z; rw [if_pos rfl]; exact l2 q
        · rw [if_neg z, l1 j (by omega)]; exact h2 j (by omega) q
      · unfold gst ue
        rw [if_neg (by omega), if_pos e5, show e + 2 - 2 = e by omega, show e + 2 - 1 = e + 1 by omega]
        dsimp only
        by_cases z : j = e
        · subst z; rw [if_pos rfl]; exact n2
        · rw [if_neg z, n1 j (by omega)]; exact h3 j (by omega)
      · unfold gst
        rw [if_neg (by omega), if_pos e5, show e + 2 - 2 = e by omega, show e + 2 - 1 = e + 1 by omega]
        dsimp only
        rw [hfo p hp q, h4 p hp q, h2 e (by omega) p, h1 (e + 1) (by omega) q]
    have w123 : ∀ fi : Nat → Int64, (∀ j, j < e → fi j = b_first j) → (∀ q, bl (fi e) q = (F e q || (E e && F (e + 1) q))) → wY_placesOf_123 post (wY_placesOf_7 post x1 n) x1 (nI e) (nI c) g_productions g_start g_sets g_states g_conflicts g_ready g_length g_tokens g_stuck g_scanned g_value g_place b_term b_size b_skipped b_left b_right b_width b_op b_constant b_rank b_grouping b_bTerm b_bSize b_bSkipped b_bLeft b_bWidth b_bOp b_bConstant fo b_ends fi b_last b_none b_set b_leads b_apart b_state b_to b_look b_begins b_nullable b_act b_built b_leadTo b_text b_fits b_token b_stack b_worth := by
      intro fi f1 f2
      unfold wY_placesOf_123
      rw [nI_1 e, nI_clamp (show e < 2 ^ 31 by omega), nI_clamp (show e + 1 < 2 ^ 31 by omega)]
      have w165 : ∀ z : Int64, (∀ q, bl z q = (T (e + 1) q || (E (e + 1) && T e q))) → wY_placesOf_165 post (wY_placesOf_7 post x1 n) x1 (nI e) (nI c) z (nI e) g_productions g_start g_sets g_states g_conflicts g_ready g_length g_tokens g_stuck g_scanned g_value g_place b_term b_size b_skipped b_left b_right b_width b_op b_constant b_rank b_grouping b_bTerm b_bSize b_bSkipped b_bLeft b_bWidth b_bOp b_bConstant fo b_ends fi b_last b_none b_set b_leads b_apart b_state b_to b_look b_begins b_nullable b_act b_built b_leadTo b_text b_fits b_token b_stack b_worth := by
        intro z hz
        unfold wY_placesOf_165
        rw [nI_1 e, nI_clamp (show e < 2 ^ 31 by omega), nI_clamp (show e + 1 < 2 ^ 31 by omega)]
        have go : ∀ x : Bool, x = (E e && E (e + 1)) → wY_placesOf_7 post x1 n (nI (e + 1)) (nI (c + 1)) g_productions g_start g_sets g_states g_conflicts g_ready g_length g_tokens g_stuck g_scanned g_value g_place b_term b_size b_skipped b_left b_right b_width b_op b_constant b_rank b_grouping b_bTerm b_bSize b_bSkipped b_bLeft b_bWidth b_bOp b_bConstant fo b_ends fi (vp_updL b_last e z) (upd b_none e (b2 x)) b_set b_leads b_apart b_state b_to b_look b_begins b_nullable b_act b_built b_leadTo b_text b_fits b_token b_stack b_worth :=
          fun x hx => fin fi _ f1 f2 (fun j hj => ul_n (by omega)) (fun q => by rw [ul_s]; exact hz q) _ (fun j hj => pk_un (by omega)) (by rw [pk_us, hx])
        rw [h3 e (by omega), h3 (e + 1) (by omega)]
        refine ⟨i0, nm_e ⟨i0, br_c (fun c1 => ⟨i0, nm_e (nm_e (nm_r (nI_1 c) (go false ?_)))⟩) (fun c1 => ⟨i1, br_c (fun c2 => ⟨i0, nm_e (nm_e (nm_r (nI_1 c) (go false ?_)))⟩) (fun c2 => ⟨i0, nm_e (nm_e (nm_r (nI_1 c) (go true ?_)))⟩)⟩)⟩⟩
        · rw [b2_0] at c1; rw [c1]; rfl
        · rw [b2_0] at c2; rw [c2, Bool.and_false]
        · rw [b2_0] at c1 c2
          cases hE : E e <;> cases hE' : E (e + 1) <;> simp_all
      rw [h3 (e + 1) (by omega)]
      refine ⟨i1, br_c (fun c1 => ⟨i1, w165 _ (fun q => ?_)⟩) (fun c1 => ⟨i0, i1, w165 _ (fun q => ?_)⟩)⟩
      · rw [b2_0] at c1
        rw [h2 (e + 1) (by omega) q, c1]; simp
      · rw [b2_0] at c1
        rw [zb_or, h2 e (by omega) q, h2 (e + 1) (by omega) q]
        cases hE' : E (e + 1)
        · exact absurd hE' c1
        · simp [Bool.or_comm]
    rw [h3 e (by omega)]
    refine ⟨i0, br_c (fun c1 => w123 b_first (fun _ _ => rfl) (fun q => ?_)) (fun c1 => ⟨i0, i1, i0, nm_e (w123 _ (fun j hj => ul_n (by omega)) (fun q => ?_))⟩)⟩
    · rw [b2_0] at c1
      rw [h1 e (by omega) q, c1]; simp
    · rw [b2_0] at c1
      rw [ul_s, zb_or, h1 e (by omega) q, h1 (e + 1) (by omega) q]
      cases hE : E e
      · exact absurd hE c1
      · simp
  · -- OR
    have e2 := hcc.2.1 (Or.inr e6)
    obtain ⟨e, rfl⟩ : ∃ e, d = e + 2 := ⟨d - 2, by omega⟩
    rw [e2] at J ⊢
    rw [show e + 2 + 1 - 2 = e + 1 by omega] at J
    rw [show e + 2 - 2 = e by omega, nI_1 e, nI_clamp (show e < 2 ^ 31 by omega), nI_clamp (show e + 1 < 2 ^ 31 by omega)]
    have i0 : vp_in (nI e) 8 := vp_in_nI (by omega) (by omega)
    have i1 : vp_in (nI (e + 1)) 8 := vp_in_nI (by omega) (by omega)
    have go : ∀ x : Bool, x = (E e || E (e + 1)) → wY_placesOf_7 post x1 n (nI (e + 1)) (nI (c + 1)) g_productions g_start g_sets g_states g_conflicts g_ready g_length g_tokens g_stuck g_scanned g_value g_place b_term b_size b_skipped b_left b_right b_width b_op b_constant b_rank b_grouping b_bTerm b_bSize b_bSkipped b_bLeft b_bWidth b_bOp b_bConstant b_follow b_ends (vp_updL b_first e (b_first e ||| b_first (e + 1))) (vp_updL b_last e (b_last e ||| b_last (e + 1))) (upd b_none e (b2 x)) b_set b_leads b_apart b_state b_to b_look b_begins b_nullable b_act b_built b_leadTo b_text b_fits b_token b_stack b_worth := by
      intro x hx
      refine J _ _ _ _ ⟨fun j hj q => ?_, fun j hj q => ?_, fun j hj => ?_, fun p hp q => ?_⟩
      · unfold gst ub
        rw [if_neg (by omega), if_neg n5, if_pos e6, show e + 2 - 2 = e by omega, show e + 2 - 1 = e + 1 by omega]
        dsimp only
        by_cases z : j = e
        · subst z; rw [if_pos rfl, ul_s, zb_or, h1 j (by omega) q, h1 (j + 1) (by omega) q]
        · rw [if_neg z, ul_n z]; exact h1 j (by omega) q
      · unfold gst ub
        rw [if_neg (by omega), if_neg n5, if_pos e6, show e + 2 - 2 = e by omega, show e + 2 - 1 = e + 1 by omega]
        dsimp only
        by_cases z : j = e
        · subst z; rw [if_pos rfl, ul_s, zb_or, h2 j (by omega) q, h2 (j + 1) (by omega) q]
        · rw [if_neg z, ul_n z]; exact h2 j (by omega) q
      · unfold gst ue
        rw [if_neg (by omega), if_neg n5, if_pos e6, show e + 2 - 2 = e by omega, show e + 2 - 1 = e + 1 by omega]
        dsimp only
        by_cases z : j = e
        · subst z; rw [if_pos rfl, pk_us, hx]
        · rw [if_neg z, pk_un z]; exact h3 j (by omega)
      · unfold gst
        rw [if_neg (by omega), if_neg n5, if_pos e6]
        exact h4 p hp q
    rw [h3 e (by omega), h3 (e + 1) (by omega)]
    refine ⟨i0, i1, i0, nm_e ⟨i0, i1, i0, nm_e ⟨i0, br_c (fun c1 => ⟨i1, br_c (fun c2 => ⟨i0, nm_e (nm_e (nm_r (nI_1 c) (go false ?_)))⟩) (fun c2 => ⟨i0, nm_e (nm_e (nm_r (nI_1 c) (go true ?_)))⟩)⟩) (fun c1 => ⟨i0, nm_e (nm_e (nm_r (nI_1 c) (go true ?_)))⟩)⟩⟩⟩
    · rw [b2_0] at c1 c2; rw [c1, c2]; rfl
    · rw [b2_0] at c1 c2
      cases hE : E e <;> cases hE' : E (e + 1) <;> simp_all
    · rw [b2_0] at c1
      cases hE : E e <;> cases hE' : E (e + 1) <;> simp_all
  · -- the others
    have e1 := hcc.2.2 (by omega)
    obtain ⟨e, rfl⟩ : ∃ e, d = e + 1 := ⟨d - 1, by omega⟩
    rw [e1] at J ⊢
    rw [show e + 1 + 1 - 1 = e + 1 by omega] at J
    rw [show e + 1 - 1 = e by omega, nI_clamp (show e < 2 ^ 31 by omega)]
    have i0 : vp_in (nI e) 8 := vp_in_nI (by omega) (by omega)
    have w298 : ∀ fo : Nat → Int64, (∀ p, p < 32 → ∀ q, bl (fo p) q = (gst t c (e + 1) (F, T, E, G)).2.2.2 p q) → wY_placesOf_298 post (wY_placesOf_7 post x1 n) x1 (nI e) (nI c) (nI t) g_productions g_start g_sets g_states g_conflicts g_ready g_length g_tokens g_stuck g_scanned g_value g_place b_term b_size b_skipped b_left b_right b_width b_op b_constant b_rank b_grouping b_bTerm b_bSize b_bSkipped b_bLeft b_bWidth b_bOp b_bConstant fo b_ends b_first b_last b_none b_set b_leads b_apart b_state b_to b_look b_begins b_nullable b_act b_built b_leadTo b_text b_fits b_token b_stack b_worth := by
      intro fo hfo
      have go : ∀ no : Nat → Int32, (∀ j, j < e + 1 → no j = b2 ((gst t c (e + 1) (F, T, E, G)).2.2.1 j)) → wY_placesOf_7 post x1 n (nI (e + 1)) (nI (c + 1)) g_productions g_start g_sets g_states g_conflicts g_ready g_length g_tokens g_stuck g_scanned g_value g_place b_term b_size b_skipped b_left b_right b_width b_op b_constant b_rank b_grouping b_bTerm b_bSize b_bSkipped b_bLeft b_bWidth b_bOp b_bConstant fo b_ends b_first b_last no b_set b_leads b_apart b_state b_to b_look b_begins b_nullable b_act b_built b_leadTo b_text b_fits b_token b_stack b_worth := by
        intro no hno
        refine J _ _ no fo ⟨fun j hj q => ?_, fun j hj q => ?_, hno, hfo⟩
        · have : (gst t c (e + 1) (F, T, E, G)).1 = F := by
            unfold gst
            rw [if_neg (by omega), if_neg n5, if_neg n6]
            split
            · rfl
            · split <;> rfl
          rw [this]; exact h1 j hj q
        · have : (gst t c (e + 1) (F, T, E, G)).2.1 = T := by
            unfold gst
            rw [if_neg (by omega), if_neg n5, if_neg n6]
            split
            · rfl
            · split <;> rfl
          rw [this]; exact h2 j hj q
      refine pk_eq t 8 (fun e8 => nm_r (nI_1 e) (nm_r (nI_1 c) (go b_none (fun j hj => ?_)))) (fun n8 => ⟨i0, nm_e (nm_r (nI_1 e) (nm_r (nI_1 c) (go _ (fun j hj => ?_))))⟩)
      · have : (gst t c (e + 1) (F, T, E, G)).2.2.1 = E := by
          unfold gst
          rw [if_neg (by omega), if_neg n5, if_neg n6, if_neg (by omega), if_pos e8]
        rw [this]; exact h3 j hj
      · have : (gst t c (e + 1) (F, T, E, G)).2.2.1 = ue E e true := by
          unfold gst
          rw [if_neg (by omega), if_neg n5, if_neg n6]
          split
          · rfl
          · first | rfl | (rw [if_neg n8]; rfl)
        rw [this, nI_clamp (show e < 2 ^ 31 by omega)]
        unfold ue
        by_cases z : j = e
        · subst z; rw [if_pos rfl, pk_us]; rfl
        · rw [if_neg z, pk_un z]; exact h3 j hj
    refine pk_le 9 t (fun c9 => w298 b_follow (fun p hp q => ?_)) (fun c9 => ⟨i0, i0, yk_ (fun fo hfo => w298 fo (fun p hp q => ?_))⟩)
    · have : (gst t c (e + 1) (F, T, E, G)).2.2.2 = G := by
        unfold gst
        rw [if_neg (by omega), if_neg n5, if_neg n6, if_neg (by omega), if_neg (by omega)]
      rw [this]; exact h4 p hp q
    · have : (gst t c (e + 1) (F, T, E, G)).2.2.2 = fun p q => G p q || (T e p && F e q) := by
        unfold gst
        rw [if_neg (by omega), if_neg n5, if_neg n6]
        split
        · rfl
        · rw [if_pos (by omega)]; rfl
      rw [this]
      dsimp only
      rw [hfo p hp q, h4 p hp q, h2 e (by omega) p, h1 e (by omega) q]
  · -- a letter
    have e0 := hcc.1 c5
    rw [e0] at J ⊢
    rw [Nat.sub_zero] at J ⊢
    rw [nI_clamp (show d < 2 ^ 31 by omega)]
    have i0 : vp_in (nI d) 8 := vp_in_nI (by omega) (by omega)
    refine ⟨i0, nm_e ⟨i0, nm_e ⟨i0, nm_e (nm_r (nI_1 d) (nm_r (nI_1 c) (J _ _ _ _ ⟨fun j hj q => ?_, fun j hj q => ?_, fun j hj => ?_, fun p hp q => ?_⟩)))⟩⟩⟩
    · unfold gst ub
      rw [if_pos c5]
      dsimp only
      by_cases z : j = d
      · subst z; rw [if_pos rfl, ul_s, zb_one (by omega)]; exact (Bool.beq_eq_decide_eq q c).symm
      · rw [if_neg z, ul_n z]; exact h1 j (by omega) q
    · unfold gst ub
      rw [if_pos c5]
      dsimp only
      by_cases z : j = d
      · subst z; rw [if_pos rfl, ul_s, zb_one (by omega)]; exact (Bool.beq_eq_decide_eq q c).symm
      · rw [if_neg z, ul_n z]; exact h2 j (by omega) q
    · unfold gst ue
      rw [if_pos c5]
      dsimp only
      by_cases z : j = d
      · subst z; rw [if_pos rfl, pk_us]; rfl
      · rw [if_neg z, pk_un z]; exact h3 j (by omega)
    · unfold gst
      rw [if_pos c5]
      exact h4 p hp q
end
