/-! the reference's sets -/
section
variable {g_productions : Int32} {g_start : Int64} {g_sets g_states g_conflicts g_ready g_length g_tokens g_stuck g_scanned g_value g_place : Int32} {b_term b_size b_skipped b_left b_right b_width b_op b_constant b_rank b_grouping b_bTerm b_bSize b_bSkipped b_bLeft b_bWidth b_bOp b_bConstant : Nat → Int32} {b_follow b_ends b_first b_last : Nat → Int64} {b_none : Nat → Int32} {b_set : Nat → Int64} {b_leads b_apart : Nat → Int32} {b_state : Nat → Int64} {b_to b_look b_begins b_nullable b_act b_built b_leadTo b_text b_fits b_token b_stack b_worth : Nat → Int32} {post : SY → Prop}
theorem yp_7 {r z : Nat} {G0 : Nat → Nat → Bool} (hr : r < 4) (hru : ru_ok b_term b_size) (ez : b_size r = nI z) (hz : z ≤ 8) (hw : wf_ (nv b_term) (8 * r) z)
    (H : ∀ (fi la : Nat → Int64) (no : Nat → Int32) (fo : Nat → Int64), RYs (gl (nv b_term) (8 * r) G0 z) (dp (nv b_term) (8 * r) z) fi la no fo →
      post (g_productions, if 0 < z then g_start ||| fi 0 else g_start, g_sets, g_states, g_conflicts, g_ready, g_length, g_tokens, g_stuck, g_scanned, g_value, g_place, b_term, b_size, b_skipped, b_left, b_right, b_width, b_op, b_constant, b_rank, b_grouping, b_bTerm, b_bSize, b_bSkipped, b_bLeft, b_bWidth, b_bOp, b_bConstant, fo, vp_updL b_ends r (if 0 < z then la 0 else 0), fi, la, no, b_set, b_leads, b_apart, b_state, b_to, b_look, b_begins, b_nullable, b_act, b_built, b_leadTo, b_text, b_fits, b_token, b_stack, b_worth)) :
    ∀ d k (fi la : Nat → Int64) (no : Nat → Int32) (fo : Nat → Int64), k + d = z → RYs (gl (nv b_term) (8 * r) G0 k) (dp (nv b_term) (8 * r) k) fi la no fo →
      wY_placesOf_7 post (nI r) (d + 1) (nI (dp (nv b_term) (8 * r) k)) (nI (8 * r + k)) g_productions g_start g_sets g_states g_conflicts g_ready g_length g_tokens g_stuck g_scanned g_value g_place b_term b_size b_skipped b_left b_right b_width b_op b_constant b_rank b_grouping b_bTerm b_bSize b_bSkipped b_bLeft b_bWidth b_bOp b_bConstant fo b_ends fi la no b_set b_leads b_apart b_state b_to b_look b_begins b_nullable b_act b_built b_leadTo b_text b_fits b_token b_stack b_worth := by
  have c1 : (nI r).toNatClampNeg = r := nI_clamp (by omega)
  have e8 : 8 * nI r + nI z = nI (8 * r + z) := by rw [show (8 : Int32) = nI 8 from rfl, pk_mul, nI_add]
  have ir : vp_in (nI r) 4 := vp_in_nI hr (by omega)
  intro d
  induction d with
  | zero =>
    intro k fi la no fo hk h
    have : k = z := by omega
    subst this
    have h' := H fi la no fo h
    refine ⟨ir, ?_⟩
    rw [c1, ez, e8]
    refine pk_le (8 * r + k) (8 * r + k) (fun _ => ?_) (fun z => absurd z (by omega))
    rcases hw.2 with z0 | z1
    · subst z0
      rw [if_neg (by omega), if_neg (by omega)] at h'
      have d0 : dp (nv b_term) (8 * r) 0 = 0 := rfl
      rw [d0]
      refine br_t (by decide) ⟨ir, ?_⟩
      rw [c1]
      exact nm_e (br_t (by decide) h')
    · have k0 : 0 < k := by
        rcases Nat.eq_zero_or_pos k with y | y
        · subst y; exact absurd z1 (by show ¬ (0 = 1); decide)
        · exact y
      rw [if_pos k0, if_pos k0] at h'
      rw [z1]
      refine br_f (by decide) ⟨ir, ?_⟩
      rw [c1]
      exact nm_e (br_f (by decide) (nm_e h'))
  | succ d ih =>
    intro k fi la no fo hk h
    obtain ⟨t, ht, et⟩ := hru.1 (8 * r + k)
    have etn : nv b_term (8 * r + k) = t := by unfold nv; rw [et]; exact nI_clamp (by omega)
    have htk := hw.1 k (by omega)
    rw [etn] at htk
    have hdp : dp (nv b_term) (8 * r) (k + 1) = dp (nv b_term) (8 * r) k + 1 - tk t := by
      show _ + 1 - tk (nv b_term (8 * r + k)) = _
      rw [etn]
    have hgl : gl (nv b_term) (8 * r) G0 (k + 1) = gst t (8 * r + k) (dp (nv b_term) (8 * r) k) (gl (nv b_term) (8 * r) G0 k) := by
      show gst (nv b_term (8 * r + k)) _ _ _ = _
      rw [etn]
    have hd4 := dp_4 hw hz (k := k) (by omega)
    refine ⟨ir, ?_⟩
    rw [c1, ez, e8]
    refine pk_le (8 * r + z) (8 * r + k) (fun z => absurd z (by omega)) (fun _ => ⟨vp_in_nI (by omega) (by omega), ?_⟩)
    rw [nI_clamp (show 8 * r + k < 2 ^ 31 by omega), et]
    refine nm_e ?_
    refine yg_ (b_first := fi) (b_last := la) (b_none := no) (b_follow := fo) (c := 8 * r + k) ht (by omega) hd4 htk h (fun fi' la' no' fo' h' => ?_)
    rw [← hgl, ← hdp] at h'
    rw [← hdp, Nat.add_assoc]
    exact ih (k + 1) fi' la' no' fo' (by omega) h'
theorem yp_p {r z : Nat} {G0 : Nat → Nat → Bool} (hr : r < 4) (hru : ru_ok b_term b_size) (ez : b_size r = nI z) (hz : z ≤ 8) (hw : wf_ (nv b_term) (8 * r) z) (h0 : ∀ p, p < 32 → ∀ q, bl (b_follow p) q = G0 p q)
    (H : ∀ (fi la : Nat → Int64) (no : Nat → Int32) (fo : Nat → Int64), RYs (gl (nv b_term) (8 * r) G0 z) (dp (nv b_term) (8 * r) z) fi la no fo →
      post (g_productions, if 0 < z then g_start ||| fi 0 else g_start, g_sets, g_states, g_conflicts, g_ready, g_length, g_tokens, g_stuck, g_scanned, g_value, g_place, b_term, b_size, b_skipped, b_left, b_right, b_width, b_op, b_constant, b_rank, b_grouping, b_bTerm, b_bSize, b_bSkipped, b_bLeft, b_bWidth, b_bOp, b_bConstant, fo, vp_updL b_ends r (if 0 < z then la 0 else 0), fi, la, no, b_set, b_leads, b_apart, b_state, b_to, b_look, b_begins, b_nullable, b_act, b_built, b_leadTo, b_text, b_fits, b_token, b_stack, b_worth)) : wpY_placesOf post (g_productions, g_start, g_sets, g_states, g_conflicts, g_ready, g_length, g_tokens, g_stuck, g_scanned, g_value, g_place, b_term, b_size, b_skipped, b_left, b_right, b_width, b_op, b_constant, b_rank, b_grouping, b_bTerm, b_bSize, b_bSkipped, b_bLeft, b_bWidth, b_bOp, b_bConstant, b_follow, b_ends, b_first, b_last, b_none, b_set, b_leads, b_apart, b_state, b_to, b_look, b_begins, b_nullable, b_act, b_built, b_leadTo, b_text, b_fits, b_token, b_stack, b_worth) (nI r) :=
  nm_r (e' := nI (8 * r + 0)) (by rw [show (8 : Int32) = nI 8 from rfl, pk_mul]; rfl) ⟨z + 1, yp_7 hr hru ez hz hw H z 0 b_first b_last b_none b_follow (by omega) ⟨fun e h => absurd h (Nat.not_lt_zero _), fun e h => absurd h (Nat.not_lt_zero _), fun e h => absurd h (Nat.not_lt_zero _), h0⟩⟩
end
section
variable {g_productions : Int32} {g_start : Int64} {g_sets g_states g_conflicts g_ready g_length g_tokens g_stuck g_scanned g_value g_place : Int32} {b_term b_size b_skipped b_left b_right b_width b_op b_constant b_rank b_grouping b_bTerm b_bSize b_bSkipped b_bLeft b_bWidth b_bOp b_bConstant : Nat → Int32} {b_follow b_ends b_first b_last : Nat → Int64} {b_none : Nat → Int32} {b_set : Nat → Int64} {b_leads b_apart : Nat → Int32} {b_state : Nat → Int64} {b_to b_look b_begins b_nullable b_act b_built b_leadTo b_text b_fits b_token b_stack b_worth : Nat → Int32} {post : Int32 → SY → Prop}
/-- what the places of all rules are -/
def yLaid (tm sz : Nat → Nat) (R : Nat) (start : Int64) (ends fo : Nat → Int64) : Prop :=
  (∀ q, bl start q = sta tm sz R q) ∧ (∀ r, r < R → ∀ q, bl (ends r) q = TR tm sz r q) ∧ (∀ p, p < 32 → ∀ q, bl (fo p) q = gG tm sz R p q)
theorem yl_28 (hru : ru_ok b_term b_size) (hw : rwf (nv b_term) (nv b_size))
    (H : ∀ (start : Int64) (ends fi la : Nat → Int64) (no : Nat → Int32) (fo : Nat → Int64), yLaid (nv b_term) (nv b_size) 4 start ends fo →
      ∃ n58 : Nat, wY_listSets_58 post g_productions start g_states g_conflicts g_ready g_length g_tokens g_stuck g_scanned g_value g_place n58 0 1 b_term b_size b_skipped b_left b_right b_width b_op b_constant b_rank b_grouping b_bTerm b_bSize b_bSkipped b_bLeft b_bWidth b_bOp b_bConstant fo ends fi la no (vp_updL b_set 0 0) b_leads b_apart b_state b_to b_look b_begins b_nullable b_act b_built b_leadTo b_text b_fits b_token b_stack b_worth) :
    ∀ d r (start : Int64) (ends fi la : Nat → Int64) (no : Nat → Int32) (fo : Nat → Int64), r + d = 4 → yLaid (nv b_term) (nv b_size) r start ends fo →
      wY_listSets_28 post (d + 1) (nI r) g_productions start g_sets g_states g_conflicts g_ready g_length g_tokens g_stuck g_scanned g_value g_place b_term b_size b_skipped b_left b_right b_width b_op b_constant b_rank b_grouping b_bTerm b_bSize b_bSkipped b_bLeft b_bWidth b_bOp b_bConstant fo ends fi la no b_set b_leads b_apart b_state b_to b_look b_begins b_nullable b_act b_built b_leadTo b_text b_fits b_token b_stack b_worth := by
  intro d
  induction d with
  | zero =>
    intro r start ends fi la no fo hr h
    have : r = 4 := by omega
    subst this
    exact pk_le 4 4 (fun _ => nm_e (H start ends fi la no fo h)) (fun z => absurd z (by omega))
  | succ d ih =>
    intro r start ends fi la no fo hr h
    obtain ⟨z, hz, ez⟩ := hru.2 r
    have ezn : nv b_size r = z := by unfold nv; rw [ez]; exact nI_clamp (by omega)
    have hwr := hw.2.2 r (by omega)
    rw [ezn] at hwr
    refine pk_le 4 r (fun z => absurd z (by omega)) (fun _ => ?_)
    refine yp_p (g_start := start) (b_ends := ends) (b_first := fi) (b_last := la) (b_none := no) (b_follow := fo) (by omega) hru ez hz hwr h.2.2 (fun fi' la' no' fo' h' => ?_)
    dsimp only
    refine nm_r (nI_1 r) (ih (r + 1) _ _ fi' la' no' fo' (by omega) ⟨fun q => ?_, fun p hp q => ?_, fun p hp q => ?_⟩)
    · show _ = (sta (nv b_term) (nv b_size) r q || FR (nv b_term) (nv b_size) r q)
      unfold FR
      rw [ezn]
      by_cases z0 : 0 < z
      · have d1 : dp (nv b_term) (8 * r) z = 1 := hwr.2.resolve_left (by omega)
        rw [if_pos z0, zb_or, h.1 q, h'.1 0 (by omega) q]; simp [z0]
      · rw [if_neg z0, h.1 q]; simp [z0]
    · by_cases e : p = r
      · subst e
        rw [ul_s]
        unfold TR
        rw [ezn]
        by_cases z0 : 0 < z
        · have d1 : dp (nv b_term) (8 * p) z = 1 := hwr.2.resolve_left (by omega)
          rw [if_pos z0, h'.2.1 0 (by omega) q]; simp [z0]
        · rw [if_neg z0, zb_0]; simp [z0]
      · rw [ul_n e]; exact h.2.1 p (by omega) q
    · show _ = (gl (nv b_term) (8 * r) (gG (nv b_term) (nv b_size) r) (nv b_size r)).2.2.2 p q
      rw [ezn]; exact h'.2.2.2 p hp q
theorem yl_7 (hru : ru_ok b_term b_size) (hw : rwf (nv b_term) (nv b_size))
    (H : ∀ (start : Int64) (ends fi la : Nat → Int64) (no : Nat → Int32) (fo : Nat → Int64), yLaid (nv b_term) (nv b_size) 4 start ends fo →
      ∃ n58 : Nat, wY_listSets_58 post g_productions start g_states g_conflicts g_ready g_length g_tokens g_stuck g_scanned g_value g_place n58 0 1 b_term b_size b_skipped b_left b_right b_width b_op b_constant b_rank b_grouping b_bTerm b_bSize b_bSkipped b_bLeft b_bWidth b_bOp b_bConstant fo ends fi la no (vp_updL b_set 0 0) b_leads b_apart b_state b_to b_look b_begins b_nullable b_act b_built b_leadTo b_text b_fits b_token b_stack b_worth) :
    ∀ d p (fo : Nat → Int64), p + d = 32 → (∀ k, k < p → fo k = 0) → wY_listSets_7 post g_productions 0 g_sets g_states g_conflicts g_ready g_length g_tokens g_stuck g_scanned g_value g_place (d + 1) (nI p) b_term b_size b_skipped b_left b_right b_width b_op b_constant b_rank b_grouping b_bTerm b_bSize b_bSkipped b_bLeft b_bWidth b_bOp b_bConstant fo b_ends b_first b_last b_none b_set b_leads b_apart b_state b_to b_look b_begins b_nullable b_act b_built b_leadTo b_text b_fits b_token b_stack b_worth := by
  intro d
  induction d with
  | zero =>
    intro p fo hp h
    have : p = 32 := by omega
    subst this
    exact pk_le 32 32 (fun _ => ⟨5, yl_28 hru hw H 4 0 0 b_ends b_first b_last b_none fo (by omega) ⟨fun q => zb_0 q, fun r hr => absurd hr (Nat.not_lt_zero _), fun k hk q => by rw [h k hk, zb_0]; rfl⟩⟩) (fun z => absurd z (by omega))
  | succ d ih =>
    intro p fo hp h
    refine pk_le 32 p (fun z => absurd z (by omega)) (fun _ => ⟨vp_in_nI (by omega) (by omega), ?_⟩)
    rw [nI_clamp (show p < 2 ^ 31 by omega)]
    refine nm_e (nm_r (nI_1 p) (ih (p + 1) _ (by omega) (fun k hk => ?_)))
    by_cases e : k = p
    · subst e; exact ul_s
    · rw [ul_n e]; exact h k (by omega)
end
/-! the steps from set to set -/
def afF (fo : Nat → Int64) (x : Int64) : Nat → Int64
  | 0 => 0
  | p + 1 => if bl x p then afF fo x p ||| fo p else afF fo x p
def rdF (tm : Nat → Nat) (x : Int64) (l : Nat) : Nat → Int64
  | 0 => 0
  | p + 1 => if bl x p = true ∧ (tm p = 4 ∨ tm p = l) then rdF tm x l p ||| ((1 : Int64) <<< ((nI p).toInt64 &&& 63)) else rdF tm x l p
def trY (fo : Nat → Int64) (tm : Nat → Nat) (start : Int64) (s : Nat) (x : Int64) (l : Nat) : Int64 := rdF tm (if s = 0 then start else afF fo x 32) l 32
theorem af_b {fo : Nat → Int64} {x : Int64} {q : Nat} : ∀ n, bl (afF fo x n) q = true ↔ ∃ p, p < n ∧ bl x p = true ∧ bl (fo p) q = true
  | 0 => ⟨fun h => by unfold afF at h; rw [zb_0] at h; exact absurd h (by decide), fun ⟨p, h, _⟩ => absurd h (Nat.not_lt_zero _)⟩
  | n + 1 => by
    unfold afF
    by_cases c : bl x n = true
    · rw [if_pos c, zb_or, Bool.or_eq_true, af_b n]
      constructor
      · rintro (⟨p, a, b⟩ | a)
        · exact ⟨p, by omega, b⟩
        · exact ⟨n, by omega, c, a⟩
      · rintro ⟨p, a, b, d⟩
        by_cases e : p = n
        · subst e; exact Or.inr d
        · exact Or.inl ⟨p, by omega, b, d⟩
    · rw [if_neg c, af_b n]
      constructor
      · rintro ⟨p, a, b⟩; exact ⟨p, by omega, b⟩
      · rintro ⟨p, a, b, d⟩
        by_cases e : p = n
        · subst e; exact absurd b c
        · exact ⟨p, by omega, b, d⟩
theorem rd_b {tm : Nat → Nat} {x : Int64} {l q : Nat} : ∀ n, n ≤ 64 → (bl (rdF tm x l n) q = true ↔ q < n ∧ bl x q = true ∧ (tm q = 4 ∨ tm q = l))
  | 0, _ => ⟨fun h => by unfold rdF at h; rw [zb_0] at h; exact absurd h (by decide), fun ⟨h, _⟩ => absurd h (Nat.not_lt_zero _)⟩
  | n + 1, hn => by
    unfold rdF
    by_cases c : bl x n = true ∧ (tm n = 4 ∨ tm n = l)
    · rw [if_pos c, zb_or, Bool.or_eq_true, rd_b n (by omega), zb_one (by omega), decide_eq_true_eq]
      constructor
      · rintro (⟨a, b⟩ | a)
        · exact ⟨by omega, b⟩
        · subst a; exact ⟨by omega, c⟩
      · rintro ⟨a, b⟩
        by_cases e : q = n
        · exact Or.inr e
        · exact Or.inl ⟨by omega, b⟩
    · rw [if_neg c, rd_b n (by omega)]
      constructor
      · rintro ⟨a, b⟩; exact ⟨by omega, b⟩
      · rintro ⟨a, b⟩
        by_cases e : q = n
        · subst e; exact absurd b c
        · exact ⟨by omega, b⟩
section
variable {g_productions : Int32} {g_start : Int64} {g_sets g_states g_conflicts g_ready g_length g_tokens g_stuck g_scanned g_value g_place : Int32} {b_term b_size b_skipped b_left b_right b_width b_op b_constant b_rank b_grouping b_bTerm b_bSize b_bSkipped b_bLeft b_bWidth b_bOp b_bConstant : Nat → Int32} {b_follow b_ends b_first b_last : Nat → Int64} {b_none : Nat → Int32} {b_set : Nat → Int64} {b_leads b_apart : Nat → Int32} {b_state : Nat → Int64} {b_to b_look b_begins b_nullable b_act b_built b_leadTo b_text b_fits b_token b_stack b_worth : Nat → Int32} {post : Int64 → Prop}
theorem yf_5 {x : Int64} (H : post (afF b_follow x 32)) : ∀ d p, p + d = 32 → wY_after_5 post x g_productions g_start g_sets g_states g_conflicts g_ready g_length g_tokens g_stuck g_scanned g_value g_place b_term b_size b_skipped b_left b_right b_width b_op b_constant b_rank b_grouping b_bTerm b_bSize b_bSkipped b_bLeft b_bWidth b_bOp b_bConstant b_follow b_ends b_first b_last b_none b_set b_leads b_apart b_state b_to b_look b_begins b_nullable b_act b_built b_leadTo b_text b_fits b_token b_stack b_worth (d + 1) (afF b_follow x p) (nI p) := by
  intro d
  induction d with
  | zero =>
    intro p hp
    have : p = 32 := by omega
    subst this
    exact pk_le 32 32 (fun _ => H) (fun z => absurd z (by omega))
  | succ d ih =>
    intro p hp
    have ih' := ih (p + 1) (by omega)
    unfold afF at ih'
    refine pk_le 32 p (fun z => absurd z (by omega)) (fun _ => zb_b1 p (fun hb => ⟨vp_in_nI (by omega) (by omega), ?_⟩) (fun hb => nm_r (nI_1 p) ?_))
    · rw [nI_clamp (show p < 2 ^ 31 by omega)]
      rw [if_pos hb] at ih'
      exact nm_e (nm_r (nI_1 p) ih')
    · rw [if_neg (by rw [hb]; decide)] at ih'
      exact ih'
theorem yf_ {x : Int64} (H : post (afF b_follow x 32)) : wpY_after post (g_productions, g_start, g_sets, g_states, g_conflicts, g_ready, g_length, g_tokens, g_stuck, g_scanned, g_value, g_place, b_term, b_size, b_skipped, b_left, b_right, b_width, b_op, b_constant, b_rank, b_grouping, b_bTerm, b_bSize, b_bSkipped, b_bLeft, b_bWidth, b_bOp, b_bConstant, b_follow, b_ends, b_first, b_last, b_none, b_set, b_leads, b_apart, b_state, b_to, b_look, b_begins, b_nullable, b_act, b_built, b_leadTo, b_text, b_fits, b_token, b_stack, b_worth) x := ⟨33, yf_5 H 32 0 (by omega)⟩
theorem yd_6 {x : Int64} {l : Nat} (hl : l < 4) (hru : ru_ok b_term b_size) (H : post (rdF (nv b_term) x l 32)) : ∀ d p, p + d = 32 → wY_read_6 post x (nI l) g_productions g_start g_sets g_states g_conflicts g_ready g_length g_tokens g_stuck g_scanned g_value g_place b_term b_size b_skipped b_left b_right b_width b_op b_constant b_rank b_grouping b_bTerm b_bSize b_bSkipped b_bLeft b_bWidth b_bOp b_bConstant b_follow b_ends b_first b_last b_none b_set b_leads b_apart b_state b_to b_look b_begins b_nullable b_act b_built b_leadTo b_text b_fits b_token b_stack b_worth (d + 1) (rdF (nv b_term) x l p) (nI p) := by
  intro d
  induction d with
  | zero =>
    intro p hp
    have : p = 32 := by omega
    subst this
    exact pk_le 32 32 (fun _ => H) (fun z => absurd z (by omega))
  | succ d ih =>
    intro p hp
    have ih' := ih (p + 1) (by omega)
    unfold rdF at ih'
    obtain ⟨t, ht, et⟩ := hru.1 p
    have etn : nv b_term p = t := by unfold nv; rw [et]; exact nI_clamp (by omega)
    rw [etn] at ih'
    have ip : vp_in (nI p) 32 := vp_in_nI (by omega) (by omega)
    refine pk_le 32 p (fun z => absurd z (by omega)) (fun _ => zb_b1 p (fun hb => ⟨ip, ?_⟩) (fun hb => nm_r (nI_1 p) ?_))
    · rw [nI_clamp (show p < 2 ^ 31 by omega), et]
      refine pk_eq t 4 (fun e => ?_) (fun n4 => ⟨ip, pk_eq t l (fun e => ?_) (fun nl => nm_r (nI_1 p) ?_)⟩)
      · rw [if_pos ⟨hb, Or.inl e⟩] at ih'
        exact nm_e (nm_r (nI_1 p) ih')
      · rw [if_pos ⟨hb, Or.inr e⟩] at ih'
        exact nm_e (nm_r (nI_1 p) ih')
      · rw [if_neg (fun z => z.2.elim n4 nl)] at ih'
        exact ih'
    · rw [if_neg (fun z => by rw [hb] at z; exact absurd z.1 (by decide))] at ih'
      exact ih'
theorem yd_ {x : Int64} {l : Nat} (hl : l < 4) (hru : ru_ok b_term b_size) (H : post (rdF (nv b_term) x l 32)) : wpY_read post (g_productions, g_start, g_sets, g_states, g_conflicts, g_ready, g_length, g_tokens, g_stuck, g_scanned, g_value, g_place, b_term, b_size, b_skipped, b_left, b_right, b_width, b_op, b_constant, b_rank, b_grouping, b_bTerm, b_bSize, b_bSkipped, b_bLeft, b_bWidth, b_bOp, b_bConstant, b_follow, b_ends, b_first, b_last, b_none, b_set, b_leads, b_apart, b_state, b_to, b_look, b_begins, b_nullable, b_act, b_built, b_leadTo, b_text, b_fits, b_token, b_stack, b_worth) x (nI l) := ⟨33, yd_6 hl hru H 32 0 (by omega)⟩
end
section
variable {g_productions : Int32} {g_start : Int64} {g_sets g_states g_conflicts g_ready g_length g_tokens g_stuck g_scanned g_value g_place : Int32} {b_term b_size b_skipped b_left b_right b_width b_op b_constant b_rank b_grouping b_bTerm b_bSize b_bSkipped b_bLeft b_bWidth b_bOp b_bConstant : Nat → Int32} {b_follow b_ends b_first b_last : Nat → Int64} {b_none : Nat → Int32} {b_set : Nat → Int64} {b_leads b_apart : Nat → Int32} {b_state : Nat → Int64} {b_to b_look b_begins b_nullable b_act b_built b_leadTo b_text b_fits b_token b_stack b_worth : Nat → Int32} {post : Int32 → SY → Prop} {J58 J91 : Int32 → Int32 → (Nat → Int32) → (Nat → Int32) → (Nat → Int32) → (Nat → Int32) → (Nat → Int32) → (Nat → Int32) → (Nat → Int32) → (Nat → Int32) → (Nat → Int32) → (Nat → Int32) → (Nat → Int32) → (Nat → Int32) → (Nat → Int32) → (Nat → Int32) → (Nat → Int32) → (Nat → Int32) → (Nat → Int32) → (Nat → Int64) → (Nat → Int64) → (Nat → Int64) → (Nat → Int64) → (Nat → Int32) → (Nat → Int64) → (Nat → Int32) → (Nat → Int32) → (Nat → Int64) → (Nat → Int32) → (Nat → Int32) → (Nat → Int32) → (Nat → Int32) → (Nat → Int32) → (Nat → Int32) → (Nat → Int32) → (Nat → Int32) → (Nat → Int32) → (Nat → Int32) → (Nat → Int32) → (Nat → Int32) → Prop}
theorem ysr_109 {x1 : Int32} {x2 v : Int64} {x4 : Int32} {c : Nat} (hc : c ≤ 61) (h0 : b_set 0 = 0) (H : ∀ k, k ≤ c → (v ≠ 0 → k = fnd b_set v c) → wY_listSets_137 post J58 J91 x1 x2 x4 v (nI k) g_productions g_start (nI c) g_states g_conflicts g_ready g_length g_tokens g_stuck g_scanned g_value g_place b_term b_size b_skipped b_left b_right b_width b_op b_constant b_rank b_grouping b_bTerm b_bSize b_bSkipped b_bLeft b_bWidth b_bOp b_bConstant b_follow b_ends b_first b_last b_none b_set b_leads b_apart b_state b_to b_look b_begins b_nullable b_act b_built b_leadTo b_text b_fits b_token b_stack b_worth) :
    ∀ d k, k + d = c → (v ≠ 0 → ∀ j, j < k → b_set j ≠ v) → wY_listSets_109 post J58 J91 x1 x2 x4 v g_productions g_start (nI c) g_states g_conflicts g_ready g_length g_tokens g_stuck g_scanned g_value g_place b_term b_size b_skipped b_left b_right b_width b_op b_constant b_rank b_grouping b_bTerm b_bSize b_bSkipped b_bLeft b_bWidth b_bOp b_bConstant b_follow b_ends b_first b_last b_none b_set b_leads b_apart b_state b_to b_look b_begins b_nullable b_act b_built b_leadTo b_text b_fits b_token b_stack b_worth (d + 1) (nI k) := by
  intro d
  induction d with
  | zero =>
    intro k hk h
    have : k = c := by omega
    subst this
    exact pk_le k k (fun _ => H k (Nat.le_refl _) (fun hv => (fnd_u (Nat.le_refl _) (h hv) (fun z => absurd z (by omega))).symm)) (fun z => absurd z (by omega))
  | succ d ih =>
    intro k hk h
    refine pk_le c k (fun z => absurd z (by omega)) (fun _ => ⟨vp_in_nI (by omega) (by omega), ?_⟩)
    rw [nI_clamp (show k < 2 ^ 31 by omega)]
    by_cases e : b_set k = v
    · exact br_t e (H k (by omega) (fun hv => (fnd_u (by omega) (h hv) (fun _ => e)).symm))
    · refine br_f e (nm_r (nI_1 k) (ih (k + 1) (by omega) (fun hv j hj => ?_)))
      by_cases z : j = k
      · subst z; exact e
      · exact h hv j (by omega)
theorem yro_91 {s : Nat} {x : Int64} {b0 : Nat × (Nat → Int64) × (Nat → Int32)} (hs : s < b0.1) (hs61 : s < 61) (h1 : 1 ≤ b0.1) (h61 : b0.1 ≤ 61) (h00 : b0.2.1 0 = 0) (hru : ru_ok b_term b_size)
    (Hn : row 61 4 (fun l => rdF (nv b_term) x l 32) s b0 4 = none → ∀ b : Nat × (Nat → Int64) × (Nat → Int32), post 0 (g_productions, g_start, nI b.1, g_states, g_conflicts, g_ready, g_length, g_tokens, g_stuck, g_scanned, g_value, g_place, b_term, b_size, b_skipped, b_left, b_right, b_width, b_op, b_constant, b_rank, b_grouping, b_bTerm, b_bSize, b_bSkipped, b_bLeft, b_bWidth, b_bOp, b_bConstant, b_follow, b_ends, b_first, b_last, b_none, b.2.1, b.2.2, b_apart, b_state, b_to, b_look, b_begins, b_nullable, b_act, b_built, b_leadTo, b_text, b_fits, b_token, b_stack, b_worth))
    (Hs : ∀ b, row 61 4 (fun l => rdF (nv b_term) x l 32) s b0 4 = some b → J58 (nI (s + 1)) (nI b.1) b_term b_size b_skipped b_left b_right b_width b_op b_constant b_rank b_grouping b_bTerm b_bSize b_bSkipped b_bLeft b_bWidth b_bOp b_bConstant b_follow b_ends b_first b_last b_none b.2.1 b.2.2 b_apart b_state b_to b_look b_begins b_nullable b_act b_built b_leadTo b_text b_fits b_token b_stack b_worth) :
    ∀ d l b, l + d = 4 → row 61 4 (fun l => rdF (nv b_term) x l 32) s b0 l = some b → 1 ≤ b.1 → b.1 ≤ 61 → s < b.1 → b.2.1 0 = 0 →
      wY_listSets_91 post J58 (nI s) x g_productions g_start g_states g_conflicts g_ready g_length g_tokens g_stuck g_scanned g_value g_place (d + 1) (nI l) (nI b.1) b_term b_size b_skipped b_left b_right b_width b_op b_constant b_rank b_grouping b_bTerm b_bSize b_bSkipped b_bLeft b_bWidth b_bOp b_bConstant b_follow b_ends b_first b_last b_none b.2.1 b.2.2 b_apart b_state b_to b_look b_begins b_nullable b_act b_built b_leadTo b_text b_fits b_token b_stack b_worth := by
  intro d
  induction d with
  | zero =>
    intro l b hl hr g1 g2 g3 g4
    have : l = 4 := by omega
    subst this
    exact pk_le 4 4 (fun _ => nm_r (nI_1 s) (Hs b hr)) (fun z => absurd z (by omega))
  | succ d ih =>
    intro l b hl hr g1 g2 g3 g4
    refine pk_le 4 l (fun z => absurd z (by omega)) (fun _ => yd_ (by omega) hru ?_)
    generalize hv : rdF (nv b_term) x l 32 = v
    have hrow : row 61 4 (fun l => rdF (nv b_term) x l 32) s b0 (l + 1) = cel 61 (4 * s + l) v b := by
      show (row 61 4 (fun l => rdF (nv b_term) x l 32) s b0 l).bind _ = _
      rw [hr, ← hv]; rfl
    have e4 : 4 * nI s + nI l = nI (4 * s + l) := by rw [show (4 : Int32) = nI 4 from rfl, pk_mul, nI_add]
    have i4 : vp_in (nI (4 * s + l)) 248 := vp_in_nI (by omega) (by omega)
    have next : ∀ b', cel 61 (4 * s + l) v b = some b' → wY_listSets_91 post J58 (nI s) x g_productions g_start g_states g_conflicts g_ready g_length g_tokens g_stuck g_scanned g_value g_place (d + 1) (nI (l + 1)) (nI b'.1) b_term b_size b_skipped b_left b_right b_width b_op b_constant b_rank b_grouping b_bTerm b_bSize b_bSkipped b_bLeft b_bWidth b_bOp b_bConstant b_follow b_ends b_first b_last b_none (b'.2.1) (b'.2.2) b_apart b_state b_to b_look b_begins b_nullable b_act b_built b_leadTo b_text b_fits b_token b_stack b_worth := by
      intro b' hb'
      obtain ⟨c1, c2, c3, -⟩ := cel_c g2 hb'
      exact ih (l + 1) b' (by omega) (hrow.trans hb') (by omega) c2 (by omega) (by rw [c3 0 (by omega)]; exact g4)
    refine ⟨b.1 - 1 + 1, ysr_109 (b_set := b.2.1) (c := b.1) g2 g4 (fun k hk hkv => ?_) (b.1 - 1) 1 (by omega) (fun hv j hj => ?_)⟩
    · by_cases v0 : v = 0
      · refine br_t v0 (br_t v0 ?_)
        rw [e4, nI_clamp (by omega)]
        refine ⟨i4, nm_e (nm_r (nI_1 l) (next (b.1, b.2.1, upd b.2.2 (4 * s + l) (-1)) ?_))⟩
        unfold cel; rw [if_pos v0]
      · have ek := hkv v0
        obtain ⟨f1, f2, f3⟩ := fnd_s b.2.1 v b.1
        refine br_f v0 (pk_eq k b.1 (fun e => pk_eq b.1 61 (fun e61 => ?_) (fun n61 => nm_r (nI_1 b.1) ?_)) (fun n => br_f v0 ?_))
        · have : cel 61 (4 * s + l) v b = none := by
            unfold cel; rw [if_neg v0, if_pos (by omega)]
          rw [this] at hrow
          have h4 := row_n hrow (3 - l)
          rw [show l + 1 + (3 - l) = 4 by omega] at h4
          exact Hn h4 b
        · rw [nI_clamp (show b.1 < 2 ^ 31 by omega)]
          refine ⟨vp_in_nI (by omega) (by omega), nm_e (br_f v0 ?_)⟩
          rw [e4, nI_clamp (show 4 * s + l < 2 ^ 31 by omega), e]
          refine ⟨i4, nm_e (nm_r (nI_1 l) (next (b.1 + 1, vp_updL b.2.1 b.1 v, upd b.2.2 (4 * s + l) (nI b.1)) ?_))⟩
          unfold cel; rw [if_neg v0, if_neg (by omega), if_pos (by omega)]
        · rw [e4, nI_clamp (show 4 * s + l < 2 ^ 31 by omega)]
          refine ⟨i4, nm_e (nm_r (nI_1 l) (next (b.1, b.2.1, upd b.2.2 (4 * s + l) (nI k)) ?_))⟩
          unfold cel; rw [if_neg v0, if_neg (by omega), if_neg (by omega), ← ek]
    · have : j = 0 := by omega
      subst this
      rw [g4]; exact fun z => hv z.symm
theorem yro_58 {b0 : Nat × (Nat → Int64) × (Nat → Int32)} (h1 : b0.1 = 1) (h00 : b0.2.1 0 = 0) (hru : ru_ok b_term b_size)
    (Hn : bf 61 4 (trY b_follow (nv b_term) g_start) b0 61 = none → ∀ b : Nat × (Nat → Int64) × (Nat → Int32), post 0 (g_productions, g_start, nI b.1, g_states, g_conflicts, g_ready, g_length, g_tokens, g_stuck, g_scanned, g_value, g_place, b_term, b_size, b_skipped, b_left, b_right, b_width, b_op, b_constant, b_rank, b_grouping, b_bTerm, b_bSize, b_bSkipped, b_bLeft, b_bWidth, b_bOp, b_bConstant, b_follow, b_ends, b_first, b_last, b_none, b.2.1, b.2.2, b_apart, b_state, b_to, b_look, b_begins, b_nullable, b_act, b_built, b_leadTo, b_text, b_fits, b_token, b_stack, b_worth))
    (Hs : ∀ b, bf 61 4 (trY b_follow (nv b_term) g_start) b0 61 = some b → post 1 (g_productions, g_start, nI b.1, g_states, g_conflicts, g_ready, g_length, g_tokens, g_stuck, g_scanned, g_value, g_place, b_term, b_size, b_skipped, b_left, b_right, b_width, b_op, b_constant, b_rank, b_grouping, b_bTerm, b_bSize, b_bSkipped, b_bLeft, b_bWidth, b_bOp, b_bConstant, b_follow, b_ends, b_first, b_last, b_none, b.2.1, b.2.2, b_apart, b_state, b_to, b_look, b_begins, b_nullable, b_act, b_built, b_leadTo, b_text, b_fits, b_token, b_stack, b_worth)) :
    ∀ d s b, s + d = 61 → bf 61 4 (trY b_follow (nv b_term) g_start) b0 s = some b →
      wY_listSets_58 post g_productions g_start g_states g_conflicts g_ready g_length g_tokens g_stuck g_scanned g_value g_place (d + 1) (nI s) (nI b.1) b_term b_size b_skipped b_left b_right b_width b_op b_constant b_rank b_grouping b_bTerm b_bSize b_bSkipped b_bLeft b_bWidth b_bOp b_bConstant b_follow b_ends b_first b_last b_none b.2.1 b.2.2 b_apart b_state b_to b_look b_begins b_nullable b_act b_built b_leadTo b_text b_fits b_token b_stack b_worth := by
  intro d
  induction d with
  | zero =>
    intro s b hs hb
    have : s = 61 := by omega
    subst this
    obtain ⟨⟨i1, i2, -⟩, -⟩ := bf_i h1 (by omega) 61 b hb
    exact pk_le b.1 61 (fun _ => Hs b hb) (fun z => absurd z (by omega))
  | succ d ih =>
    intro s b hs hb
    obtain ⟨⟨i1, i2, i3⟩, i4⟩ := bf_i h1 (by omega) s b hb
    rw [h00] at i4
    refine pk_le b.1 s (fun z => ?_) (fun z => ?_)
    · have := bf_e hb z (61 - s)
      rw [show s + (61 - s) = 61 by omega] at this
      exact Hs b this
    · have hstep : bf 61 4 (trY b_follow (nv b_term) g_start) b0 (s + 1) = row 61 4 (trY b_follow (nv b_term) g_start s (b.2.1 s)) s b 4 := by
        show (bf 61 4 (trY b_follow (nv b_term) g_start) b0 s).bind _ = _
        rw [hb]
        show (if s < b.1 then _ else _) = _
        rw [if_pos z]
      have go : ∀ x : Int64, (if s = 0 then g_start else afF b_follow (b.2.1 s) 32) = x → ∃ n91 : Nat, wY_listSets_91 post (wY_listSets_58 post g_productions g_start g_states g_conflicts g_ready g_length g_tokens g_stuck g_scanned g_value g_place (d + 1)) (nI s) x g_productions g_start g_states g_conflicts g_ready g_length g_tokens g_stuck g_scanned g_value g_place n91 0 (nI b.1) b_term b_size b_skipped b_left b_right b_width b_op b_constant b_rank b_grouping b_bTerm b_bSize b_bSkipped b_bLeft b_bWidth b_bOp b_bConstant b_follow b_ends b_first b_last b_none b.2.1 b.2.2 b_apart b_state b_to b_look b_begins b_nullable b_act b_built b_leadTo b_text b_fits b_token b_stack b_worth := by
        intro x hx
        have ef : trY b_follow (nv b_term) g_start s (b.2.1 s) = fun l => rdF (nv b_term) x l 32 := by
          funext l; unfold trY; rw [hx]
        rw [ef] at hstep
        refine ⟨5, yro_91 (b0 := b) z (by omega) i1 i2 i4 hru (fun hn b' => ?_) (fun b' hb' => ?_) 4 0 b (by omega) rfl i1 i2 z i4⟩
        · rw [hn] at hstep
          have := bf_n hstep (60 - s)
          rw [show s + 1 + (60 - s) = 61 by omega] at this
          exact Hn this b'
        · rw [hb'] at hstep
          exact ih (s + 1) b' (by omega) hstep
      refine pk_eq s 0 (fun e => go g_start (if_pos e)) (fun n => ⟨vp_in_nI (by omega) (by omega), yf_ ?_⟩)
      rw [nI_clamp (show s < 2 ^ 31 by omega)]
      exact go _ (if_neg n)
/-- the reference's listing of sets -/
theorem y_sets (hru : ru_ok b_term b_size) (hw : rwf (nv b_term) (nv b_size))
    (H : ∀ (start : Int64) (ends fi la : Nat → Int64) (no : Nat → Int32) (fo : Nat → Int64), yLaid (nv b_term) (nv b_size) 4 start ends fo →
      (bf 61 4 (trY fo (nv b_term) start) (1, vp_updL b_set 0 0, b_leads) 61 = none → ∀ b : Nat × (Nat → Int64) × (Nat → Int32), post 0 (g_productions, start, nI b.1, g_states, g_conflicts, g_ready, g_length, g_tokens, g_stuck, g_scanned, g_value, g_place, b_term, b_size, b_skipped, b_left, b_right, b_width, b_op, b_constant, b_rank, b_grouping, b_bTerm, b_bSize, b_bSkipped, b_bLeft, b_bWidth, b_bOp, b_bConstant, fo, ends, fi, la, no, b.2.1, b.2.2, b_apart, b_state, b_to, b_look, b_begins, b_nullable, b_act, b_built, b_leadTo, b_text, b_fits, b_token, b_stack, b_worth)) ∧
      (∀ b, bf 61 4 (trY fo (nv b_term) start) (1, vp_updL b_set 0 0, b_leads) 61 = some b → post 1 (g_productions, start, nI b.1, g_states, g_conflicts, g_ready, g_length, g_tokens, g_stuck, g_scanned, g_value, g_place, b_term, b_size, b_skipped, b_left, b_right, b_width, b_op, b_constant, b_rank, b_grouping, b_bTerm, b_bSize, b_bSkipped, b_bLeft, b_bWidth, b_bOp, b_bConstant, fo, ends, fi, la, no, b.2.1, b.2.2, b_apart, b_state, b_to, b_look, b_begins, b_nullable, b_act, b_built, b_leadTo, b_text, b_fits, b_token, b_stack, b_worth))) :
    wpY_listSets post (g_productions, g_start, g_sets, g_states, g_conflicts, g_ready, g_length, g_tokens, g_stuck, g_scanned, g_value, g_place, b_term, b_size, b_skipped, b_left, b_right, b_width, b_op, b_constant, b_rank, b_grouping, b_bTerm, b_bSize, b_bSkipped, b_bLeft, b_bWidth, b_bOp, b_bConstant, b_follow, b_ends, b_first, b_last, b_none, b_set, b_leads, b_apart, b_state, b_to, b_look, b_begins, b_nullable, b_act, b_built, b_leadTo, b_text, b_fits, b_token, b_stack, b_worth) := by
  refine ⟨33, yl_7 hru hw (fun start ends fi la no fo h => ⟨62, ?_⟩) 32 0 b_follow (by omega) (fun k hk => absurd hk (Nat.not_lt_zero _))⟩
  obtain ⟨Hn, Hs⟩ := H start ends fi la no fo h
  exact yro_58 (b_follow := fo) (b_ends := ends) (b_first := fi) (b_last := la) (b_none := no) (b0 := (1, vp_updL b_set 0 0, b_leads)) rfl (show vp_updL b_set 0 0 0 = 0 from ul_s) hru Hn Hs 61 0 _ (by omega) rfl
end
