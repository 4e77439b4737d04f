/-! the parser's states -/
def sc (c : Nat) : Nat := if c < 4 then c else c + 6
def trS (pc : Nat) (L W : Nat → Nat) (R : Nat → Nat → Nat) (_ : Nat) (v : Int64) (c : Nat) : Int64 := clo pc L W R (bhF W R v (nI (sc c)) 34)
def st0 (pc : Nat) (L W : Nat → Nat) (R : Nat → Nat → Nat) : Int64 := clo pc L W R 4294967296
theorem sc_c {c : Nat} (h : c < 7) : sym (sc c) ∧ col (sc c) = c := by
  unfold sc sym col
  by_cases z : c < 4
  · rw [if_pos z, if_pos z]; exact ⟨Or.inl z, rfl⟩
  · rw [if_neg z, if_neg (by omega)]; exact ⟨Or.inr (by omega), by omega⟩
theorem col_s {x : Nat} (h : sym x) : col x < 7 ∧ sc (col x) = x := by
  unfold sc col
  rcases h with h | h
  · rw [if_pos h]; exact ⟨by omega, if_pos h⟩
  · rw [if_neg (by omega), if_neg (by omega)]; exact ⟨by omega, by omega⟩
section
variable {pc : Nat} {L W : Nat → Nat} {R : Nat → Nat → Nat}
theorem tr34 (hV : gr_V pc L W R) {v : Int64} {x : Nat} (hx : x < 2 ^ 31) {j : Nat} (hj : 34 ≤ j) : bl (clo pc L W R (bhF W R v (nI x) 34)) j = false := by
  refine (clo_Y hV.2.2.1 hV.1 (fun j hj => ?_)).2 j hj
  cases z : bl (bhF W R v (nI x) 34) j with
  | false => rfl
  | true => have := bh_in hV (zn_ne1 hx) (by omega) z; omega
theorem b32 : ∀ j, bl 4294967296 j = true ↔ j = 32 := by
  intro j
  by_cases c : j < 64
  · have : ∀ j, j < 64 → (bl 4294967296 j = true ↔ j = 32) := by decide +kernel
    exact this j c
  · rw [zb_big (by omega)]; exact ⟨fun h => absurd h (by decide), fun h => by omega⟩
theorem st0_34 (hV : gr_V pc L W R) {j : Nat} (hj : 34 ≤ j) : bl (st0 pc L W R) j = false := by
  refine (clo_Y hV.2.2.1 hV.1 (fun j hj => ?_)).2 j hj
  cases z : bl 4294967296 j with
  | false => rfl
  | true => have := (b32 j).mp z; omega
/-- all states' items are below 34 -/
theorem st34 (hV : gr_V pc L W R) {s l : Nat} {b : Nat × (Nat → Int64) × (Nat → Int32)} (h : BI 40 7 (trS pc L W R) s l b) (h0 : b.2.1 0 = st0 pc L W R) {k : Nat} (hk : k < b.1) {j : Nat} (hj : 34 ≤ j) : bl (b.2.1 k) j = false := by
  by_cases z : k = 0
  · subst z; rw [h0]; exact st0_34 hV hj
  · obtain ⟨-, p, m, -, hm, e⟩ := h.2.2.2 k (by omega) hk
    rw [e]
    have : sc m < 2 ^ 31 := by unfold sc; split <;> omega
    exact tr34 hV this hj
/-- no step behind other symbols -/
theorem bh_no (hV : gr_V pc L W R) {v : Int64} {x : Nat} (hx : ¬ sym x) (hx' : x < 2 ^ 31) : clo pc L W R (bhF W R v (nI x) 34) = 0 := by
  have : bhF W R v (nI x) 34 = 0 := by
    apply zb_ext
    intro j _
    rw [zb_0]
    cases z : bl (bhF W R v (nI x) 34) j with
    | false => rfl
    | true =>
      obtain ⟨i, hi, _, h2, _⟩ := (bh_b 34 (by omega)).mp z
      exfalso
      unfold nxt at h2
      by_cases c : i % 4 < W (i / 4)
      · rw [if_pos c] at h2
        have := (hV.2.1 (i / 4)).2.2 _ c
        have e := zn_inj (by rcases this with h | h <;> omega) hx' h2
        rw [e] at this
        exact hx this
      · rw [if_neg c] at h2
        exact absurd h2.symm (zn_ne1 hx')
  rw [this, clo_0]
end
section
variable {g_productions : Int32} {g_start : Int64} {g_sets g_states g_conflicts g_ready g_length g_tokens g_stuck g_scanned g_value g_place : Int32} {b_term b_size b_skipped b_left b_right b_width b_op b_constant b_rank b_grouping b_bTerm b_bSize b_bSkipped b_bLeft b_bWidth b_bOp b_bConstant : Nat → Int32} {b_follow b_ends b_first b_last : Nat → Int64} {b_none : Nat → Int32} {b_set : Nat → Int64} {b_leads b_apart : Nat → Int32} {b_state : Nat → Int64} {b_to b_look b_begins b_nullable b_act b_built b_leadTo b_text b_fits b_token b_stack b_worth : Nat → Int32} {post : Int32 → SY → Prop} {J20 J30 : Int32 → Int32 → (Nat → Int32) → (Nat → Int32) → (Nat → Int32) → (Nat → Int32) → (Nat → Int32) → (Nat → Int32) → (Nat → Int32) → (Nat → Int32) → (Nat → Int32) → (Nat → Int32) → (Nat → Int32) → (Nat → Int32) → (Nat → Int32) → (Nat → Int32) → (Nat → Int32) → (Nat → Int32) → (Nat → Int32) → (Nat → Int64) → (Nat → Int64) → (Nat → Int64) → (Nat → Int64) → (Nat → Int32) → (Nat → Int64) → (Nat → Int32) → (Nat → Int32) → (Nat → Int64) → (Nat → Int32) → (Nat → Int32) → (Nat → Int32) → (Nat → Int32) → (Nat → Int32) → (Nat → Int32) → (Nat → Int32) → (Nat → Int32) → (Nat → Int32) → (Nat → Int32) → (Nat → Int32) → (Nat → Int32) → Prop} {pc : Nat} {L W : Nat → Nat} {R : Nat → Nat → Nat}
theorem ytr_63 {x1 x2 : Int32} {v : Int64} {c : Nat} (hc : c ≤ 40) (H : ∀ k, k ≤ c → (v ≠ 0 → k = fnd b_state v c) → wY_listStates_90 post J20 J30 x1 x2 v (nI k) g_productions g_start g_sets (nI c) g_conflicts g_ready g_length g_tokens g_stuck g_scanned g_value g_place b_term b_size b_skipped b_left b_right b_width b_op b_constant b_rank b_grouping b_bTerm b_bSize b_bSkipped b_bLeft b_bWidth b_bOp b_bConstant b_follow b_ends b_first b_last b_none b_set b_leads b_apart b_state b_to b_look b_begins b_nullable b_act b_built b_leadTo b_text b_fits b_token b_stack b_worth) :
    ∀ d k, k + d = c → (v ≠ 0 → ∀ j, j < k → b_state j ≠ v) → wY_listStates_63 post J20 J30 x1 x2 v g_productions g_start g_sets (nI c) g_conflicts g_ready g_length g_tokens g_stuck g_scanned g_value g_place b_term b_size b_skipped b_left b_right b_width b_op b_constant b_rank b_grouping b_bTerm b_bSize b_bSkipped b_bLeft b_bWidth b_bOp b_bConstant b_follow b_ends b_first b_last b_none b_set b_leads b_apart b_state b_to b_look b_begins b_nullable b_act b_built b_leadTo b_text b_fits b_token b_stack b_worth (d + 1) (nI k) := by
  intro d
  induction d with
  | zero =>
    intro k hk h
    have : k = c := by omega
    subst this
    exact pk_le k k (fun _ => H k (Nat.le_refl _) (fun hv => (fnd_u (Nat.le_refl _) (h hv) (fun z => absurd z (by omega))).symm)) (fun z => absurd z (by omega))
  | succ d ih =>
    intro k hk h
    refine pk_le c k (fun z => absurd z (by omega)) (fun _ => ⟨vp_in_nI (by omega) (by omega), ?_⟩)
    rw [nI_clamp (show k < 2 ^ 31 by omega)]
    by_cases e : b_state k = v
    · exact br_t e (H k (by omega) (fun hv => (fnd_u (by omega) (h hv) (fun _ => e)).symm))
    · refine br_f e (nm_r (nI_1 k) (ih (k + 1) (by omega) (fun hv j hj => ?_)))
      by_cases z : j = k
      · subst z; exact e
      · exact h hv j (by omega)
theorem yst_30 (hV : gr_V pc L W R) (hY : gr_Y b_left b_right b_width L W R) {s : Nat} {b0 : Nat × (Nat → Int64) × (Nat → Int32)} (hs40 : s < 40) (hb34 : ∀ j, 34 ≤ j → bl (b0.2.1 s) j = false)
    (Hn : row 40 7 (trS pc L W R s (b0.2.1 s)) s b0 7 = none → ∀ b : Nat × (Nat → Int64) × (Nat → Int32), post 0 (nI pc, g_start, g_sets, nI b.1, g_conflicts, g_ready, g_length, g_tokens, g_stuck, g_scanned, g_value, g_place, b_term, b_size, b_skipped, b_left, b_right, b_width, b_op, b_constant, b_rank, b_grouping, b_bTerm, b_bSize, b_bSkipped, b_bLeft, b_bWidth, b_bOp, b_bConstant, b_follow, b_ends, b_first, b_last, b_none, b_set, b_leads, b_apart, b.2.1, b.2.2, b_look, b_begins, b_nullable, b_act, b_built, b_leadTo, b_text, b_fits, b_token, b_stack, b_worth))
    (Hs : ∀ b, row 40 7 (trS pc L W R s (b0.2.1 s)) s b0 7 = some b → J20 (nI (s + 1)) (nI b.1) b_term b_size b_skipped b_left b_right b_width b_op b_constant b_rank b_grouping b_bTerm b_bSize b_bSkipped b_bLeft b_bWidth b_bOp b_bConstant b_follow b_ends b_first b_last b_none b_set b_leads b_apart b.2.1 b.2.2 b_look b_begins b_nullable b_act b_built b_leadTo b_text b_fits b_token b_stack b_worth) :
    ∀ d l b, l + d = 7 → row 40 7 (trS pc L W R s (b0.2.1 s)) s b0 l = some b → b.1 ≤ 40 → s < b.1 → b.2.1 s = b0.2.1 s →
      wY_listStates_30 post J20 (nI s) (nI pc) g_start g_sets g_conflicts g_ready g_length g_tokens g_stuck g_scanned g_value g_place (d + 1) (nI l) (nI b.1) b_term b_size b_skipped b_left b_right b_width b_op b_constant b_rank b_grouping b_bTerm b_bSize b_bSkipped b_bLeft b_bWidth b_bOp b_bConstant b_follow b_ends b_first b_last b_none b_set b_leads b_apart b.2.1 b.2.2 b_look b_begins b_nullable b_act b_built b_leadTo b_text b_fits b_token b_stack b_worth := by
  intro d
  induction d with
  | zero =>
    intro l b hl hr g2 g3 g4
    have : l = 7 := by omega
    subst this
    exact pk_le 7 7 (fun _ => nm_r (nI_1 s) (Hs b hr)) (fun z => absurd z (by omega))
  | succ d ih =>
    intro l b hl hr g2 g3 g4
    have hrow : row 40 7 (trS pc L W R s (b0.2.1 s)) s b0 (l + 1) = cel 40 (7 * s + l) (trS pc L W R s (b0.2.1 s) l) b := by
      show (row 40 7 (trS pc L W R s (b0.2.1 s)) s b0 l).bind _ = _
      rw [hr]; rfl
    have e7 : 7 * nI s + nI l = nI (7 * s + l) := by rw [show (7 : Int32) = nI 7 from rfl, pk_mul, nI_add]
    have i7 : vp_in (nI (7 * s + l)) 287 := vp_in_nI (by omega) (by omega)
    have next : ∀ b', cel 40 (7 * s + l) (trS pc L W R s (b0.2.1 s) l) b = some b' → wY_listStates_30 post J20 (nI s) (nI pc) g_start g_sets g_conflicts g_ready g_length g_tokens g_stuck g_scanned g_value g_place (d + 1) (nI (l + 1)) (nI b'.1) b_term b_size b_skipped b_left b_right b_width b_op b_constant b_rank b_grouping b_bTerm b_bSize b_bSkipped b_bLeft b_bWidth b_bOp b_bConstant b_follow b_ends b_first b_last b_none b_set b_leads b_apart (b'.2.1) (b'.2.2) b_look b_begins b_nullable b_act b_built b_leadTo b_text b_fits b_token b_stack b_worth := by
      intro b' hb'
      obtain ⟨c1, c2, c3, -⟩ := cel_c g2 hb'
      exact ih (l + 1) b' (by omega) (hrow.trans hb') c2 (by omega) (by rw [c3 s g3]; exact g4)
    have w56 : ∀ x : Int32, x = nI (sc l) → wY_listStates_56 post J20 (wY_listStates_30 post J20 (nI s) (nI pc) g_start g_sets g_conflicts g_ready g_length g_tokens g_stuck g_scanned g_value g_place (d + 1)) (nI s) (nI l) x (b.2.1 s) (nI pc) g_start g_sets (nI b.1) g_conflicts g_ready g_length g_tokens g_stuck g_scanned g_value g_place b_term b_size b_skipped b_left b_right b_width b_op b_constant b_rank b_grouping b_bTerm b_bSize b_bSkipped b_bLeft b_bWidth b_bOp b_bConstant b_follow b_ends b_first b_last b_none b_set b_leads b_apart b.2.1 b.2.2 b_look b_begins b_nullable b_act b_built b_leadTo b_text b_fits b_token b_stack b_worth := by
      intro x hx
      subst hx
      have hsl : sc l < 2 ^ 31 := by unfold sc; split <;> omega
      rw [g4]
      refine yib hV hY (zn_ne1 hsl) hb34 ?_
      change ∃ n63 : Nat, wY_listStates_63 post J20 (wY_listStates_30 post J20 (nI s) (nI pc) g_start g_sets g_conflicts g_ready g_length g_tokens g_stuck g_scanned g_value g_place (d + 1)) (nI s) (nI l) (trS pc L W R s (b0.2.1 s) l) (nI pc) g_start g_sets (nI b.1) g_conflicts g_ready g_length g_tokens g_stuck g_scanned g_value g_place b_term b_size b_skipped b_left b_right b_width b_op b_constant b_rank b_grouping b_bTerm b_bSize b_bSkipped b_bLeft b_bWidth b_bOp b_bConstant b_follow b_ends b_first b_last b_none b_set b_leads b_apart b.2.1 b.2.2 b_look b_begins b_nullable b_act b_built b_leadTo b_text b_fits b_token b_stack b_worth n63 0
      generalize trS pc L W R s (b0.2.1 s) l = v at hrow next
      refine ⟨b.1 + 1, ytr_63 (b_state := b.2.1) (c := b.1) g2 (fun k hk hkv => ?_) b.1 0 (by omega) (fun _ j hj => absurd hj (Nat.not_lt_zero _))⟩
      by_cases v0 : v = 0
      · refine br_t v0 (br_t v0 ?_)
        rw [e7, nI_clamp (by omega)]
        refine ⟨i7, nm_e (nm_r (nI_1 l) (next (b.1, b.2.1, upd b.2.2 (7 * s + l) (-1)) ?_))⟩
        unfold cel; rw [if_pos v0]
      · have ek := hkv v0
        obtain ⟨f1, f2, f3⟩ := fnd_s b.2.1 v b.1
        refine br_f v0 (pk_eq k b.1 (fun e => pk_eq b.1 40 (fun e40 => ?_) (fun n40 => nm_r (nI_1 b.1) ?_)) (fun n => br_f v0 ?_))
        · have : cel 40 (7 * s + l) v b = none := by
            unfold cel; rw [if_neg v0, if_pos (by omega)]
          rw [this] at hrow
          have h4 := row_n hrow (6 - l)
          rw [show l + 1 + (6 - l) = 7 by omega] at h4
          exact Hn h4 b
        · rw [nI_clamp (show b.1 < 2 ^ 31 by omega)]
          refine ⟨vp_in_nI (by omega) (by omega), nm_e (br_f v0 ?_)⟩
          rw [e7, nI_clamp (show 7 * s + l < 2 ^ 31 by omega), e]
          refine ⟨i7, nm_e (nm_r (nI_1 l) (next (b.1 + 1, vp_updL b.2.1 b.1 v, upd b.2.2 (7 * s + l) (nI b.1)) ?_))⟩
          unfold cel; rw [if_neg v0, if_neg (by omega), if_pos (by omega)]
        · rw [e7, nI_clamp (show 7 * s + l < 2 ^ 31 by omega)]
          refine ⟨i7, nm_e (nm_r (nI_1 l) (next (b.1, b.2.1, upd b.2.2 (7 * s + l) (nI k)) ?_))⟩
          unfold cel; rw [if_neg v0, if_neg (by omega), if_neg (by omega), ← ek]
    refine pk_le 7 l (fun z => absurd z (by omega)) (fun _ => ⟨vp_in_nI (by omega) (by omega), ?_⟩)
    rw [nI_clamp (show s < 2 ^ 31 by omega)]
    refine pk_le 4 l (fun c => w56 _ ?_) (fun c => w56 _ ?_)
    · unfold sc; rw [if_neg (by omega)]; exact nI_add l 6
    · unfold sc; rw [if_pos c]
theorem yst_20 (hV : gr_V pc L W R) (hY : gr_Y b_left b_right b_width L W R) {b0 : Nat × (Nat → Int64) × (Nat → Int32)} (h1 : b0.1 = 1) (h00 : b0.2.1 0 = st0 pc L W R)
    (Hn : bf 40 7 (trS pc L W R) b0 40 = none → ∀ b : Nat × (Nat → Int64) × (Nat → Int32), post 0 (nI pc, g_start, g_sets, nI b.1, g_conflicts, g_ready, g_length, g_tokens, g_stuck, g_scanned, g_value, g_place, b_term, b_size, b_skipped, b_left, b_right, b_width, b_op, b_constant, b_rank, b_grouping, b_bTerm, b_bSize, b_bSkipped, b_bLeft, b_bWidth, b_bOp, b_bConstant, b_follow, b_ends, b_first, b_last, b_none, b_set, b_leads, b_apart, b.2.1, b.2.2, b_look, b_begins, b_nullable, b_act, b_built, b_leadTo, b_text, b_fits, b_token, b_stack, b_worth))
    (Hs : ∀ b, bf 40 7 (trS pc L W R) b0 40 = some b → post 1 (nI pc, g_start, g_sets, nI b.1, g_conflicts, g_ready, g_length, g_tokens, g_stuck, g_scanned, g_value, g_place, b_term, b_size, b_skipped, b_left, b_right, b_width, b_op, b_constant, b_rank, b_grouping, b_bTerm, b_bSize, b_bSkipped, b_bLeft, b_bWidth, b_bOp, b_bConstant, b_follow, b_ends, b_first, b_last, b_none, b_set, b_leads, b_apart, b.2.1, b.2.2, b_look, b_begins, b_nullable, b_act, b_built, b_leadTo, b_text, b_fits, b_token, b_stack, b_worth)) :
    ∀ d s b, s + d = 40 → bf 40 7 (trS pc L W R) b0 s = some b →
      wY_listStates_20 post (nI pc) g_start g_sets g_conflicts g_ready g_length g_tokens g_stuck g_scanned g_value g_place (d + 1) (nI s) (nI b.1) b_term b_size b_skipped b_left b_right b_width b_op b_constant b_rank b_grouping b_bTerm b_bSize b_bSkipped b_bLeft b_bWidth b_bOp b_bConstant b_follow b_ends b_first b_last b_none b_set b_leads b_apart b.2.1 b.2.2 b_look b_begins b_nullable b_act b_built b_leadTo b_text b_fits b_token b_stack b_worth := by
  intro d
  induction d with
  | zero =>
    intro s b hs hb
    have : s = 40 := by omega
    subst this
    obtain ⟨⟨i1, i2, -⟩, -⟩ := bf_i h1 (by omega) 40 b hb
    exact pk_le b.1 40 (fun _ => Hs b hb) (fun z => absurd z (by omega))
  | succ d ih =>
    intro s b hs hb
    obtain ⟨i0, i4⟩ := bf_i h1 (by omega) s b hb
    obtain ⟨i1, i2, i3⟩ := id i0
    rw [h00] at i4
    refine pk_le b.1 s (fun z => ?_) (fun z => ?_)
    · have := bf_e hb z (40 - s)
      rw [show s + (40 - s) = 40 by omega] at this
      exact Hs b this
    · have hstep : bf 40 7 (trS pc L W R) b0 (s + 1) = row 40 7 (trS pc L W R s (b.2.1 s)) s b 7 := by
        show (bf 40 7 (trS pc L W R) b0 s).bind _ = _
        rw [hb]
        show (if s < b.1 then _ else _) = _
        rw [if_pos z]
      refine ⟨8, yst_30 hV hY (b0 := b) (by omega) (fun j hj => st34 hV i0 i4 z hj) (fun hn b' => ?_) (fun b' hb' => ?_) 7 0 b (by omega) rfl i2 z rfl⟩
      · rw [hn] at hstep
        have := bf_n hstep (39 - s)
        rw [show s + 1 + (39 - s) = 40 by omega] at this
        exact Hn this b'
      · rw [hb'] at hstep
        exact ih (s + 1) b' (by omega) hstep
theorem y_states (hV : gr_V pc L W R) (hY : gr_Y b_left b_right b_width L W R)
    (Hn : bf 40 7 (trS pc L W R) (1, vp_updL b_state 0 (st0 pc L W R), b_to) 40 = none → ∀ b : Nat × (Nat → Int64) × (Nat → Int32), post 0 (nI pc, g_start, g_sets, nI b.1, g_conflicts, g_ready, g_length, g_tokens, g_stuck, g_scanned, g_value, g_place, b_term, b_size, b_skipped, b_left, b_right, b_width, b_op, b_constant, b_rank, b_grouping, b_bTerm, b_bSize, b_bSkipped, b_bLeft, b_bWidth, b_bOp, b_bConstant, b_follow, b_ends, b_first, b_last, b_none, b_set, b_leads, b_apart, b.2.1, b.2.2, b_look, b_begins, b_nullable, b_act, b_built, b_leadTo, b_text, b_fits, b_token, b_stack, b_worth))
    (Hs : ∀ b, bf 40 7 (trS pc L W R) (1, vp_updL b_state 0 (st0 pc L W R), b_to) 40 = some b → post 1 (nI pc, g_start, g_sets, nI b.1, g_conflicts, g_ready, g_length, g_tokens, g_stuck, g_scanned, g_value, g_place, b_term, b_size, b_skipped, b_left, b_right, b_width, b_op, b_constant, b_rank, b_grouping, b_bTerm, b_bSize, b_bSkipped, b_bLeft, b_bWidth, b_bOp, b_bConstant, b_follow, b_ends, b_first, b_last, b_none, b_set, b_leads, b_apart, b.2.1, b.2.2, b_look, b_begins, b_nullable, b_act, b_built, b_leadTo, b_text, b_fits, b_token, b_stack, b_worth)) : wpY_listStates post (nI pc, g_start, g_sets, g_states, g_conflicts, g_ready, g_length, g_tokens, g_stuck, g_scanned, g_value, g_place, b_term, b_size, b_skipped, b_left, b_right, b_width, b_op, b_constant, b_rank, b_grouping, b_bTerm, b_bSize, b_bSkipped, b_bLeft, b_bWidth, b_bOp, b_bConstant, b_follow, b_ends, b_first, b_last, b_none, b_set, b_leads, b_apart, b_state, b_to, b_look, b_begins, b_nullable, b_act, b_built, b_leadTo, b_text, b_fits, b_token, b_stack, b_worth) := by
  refine ycl hV hY (fun j hj => ?_) (nm_e ⟨41, yst_20 hV hY (b0 := (1, vp_updL b_state 0 (st0 pc L W R), b_to)) rfl (show vp_updL b_state 0 (st0 pc L W R) 0 = _ from ul_s) Hn Hs 40 0 _ (by omega) rfl⟩)
  cases z : bl 4294967296 j with
  | false => rfl
  | true => have := (b32 j).mp z; omega
end
section
variable {f_productionCount f_textLength f_anythingBuilt f_tokenCount f_parseValue f_parsePlace : Int32} {a_ruleTerms a_ruleLengths a_skips a_grammar a_ranks a_groupings a_text a_heads a_tails a_empties a_placeLetters a_followers a_ruleEnds : Nat → Int32} {a_sets : Nat → Int64} {a_steps a_classes a_finerClasses : Nat → Int32} {a_states : Nat → Int64} {a_moves a_begins a_lookaheads a_builtCounts a_builtSteps a_builtMatches a_builtSkips a_builtGrammar a_builtMoves a_builtActions a_tokenRules a_tokenBegins a_tokenEnds a_stackStates a_stackValues : Nat → Int32} {pc : Nat} {L W : Nat → Nat} {R : Nat → Nat → Nat}
theorem xso_3 {post : Int32 → Prop} {v : Int64} {c : Nat} (hc : c ≤ 40) (H : post (nI (fnd a_states v c))) : ∀ d k, k + d = c → (∀ j, j < k → a_states j ≠ v) → wX_slotOf__states_3 post v (nI c) f_productionCount f_textLength f_anythingBuilt f_tokenCount f_parseValue f_parsePlace a_ruleTerms a_ruleLengths a_skips a_grammar a_ranks a_groupings a_text a_heads a_tails a_empties a_placeLetters a_followers a_ruleEnds a_sets a_steps a_classes a_finerClasses a_states a_moves a_begins a_lookaheads a_builtCounts a_builtSteps a_builtMatches a_builtSkips a_builtGrammar a_builtMoves a_builtActions a_tokenRules a_tokenBegins a_tokenEnds a_stackStates a_stackValues (d + 1) (nI k) := by
  intro d
  induction d with
  | zero =>
    intro k hk h
    have : k = c := by omega
    subst this
    have e := fnd_u (Nat.le_refl k) h (fun z => absurd z (by omega))
    rw [e] at H
    exact pk_le 40 k (fun _ => H) (fun _ => pk_le k k (fun _ => H) (fun z => absurd z (by omega)))
  | succ d ih =>
    intro k hk h
    refine pk_le 40 k (fun z => absurd z (by omega)) (fun _ => pk_le c k (fun z => absurd z (by omega)) (fun _ => ⟨vp_in_nI (by omega) (by omega), ?_⟩))
    rw [nI_clamp (show k < 2 ^ 31 by omega)]
    by_cases e : a_states k = v
    · rw [fnd_u (show k ≤ c by omega) h (fun _ => e)] at H
      exact br_t e H
    · refine br_f e (nm_r (nI_1 k) (ih (k + 1) (by omega) (fun j hj => ?_)))
      by_cases z : j = k
      · subst z; exact e
      · exact h j (by omega)
theorem xso_ {post : Int32 → Prop} {v : Int64} {c : Nat} (hc : c ≤ 40) (H : post (nI (fnd a_states v c))) : wpX_slotOf__states post (f_productionCount, f_textLength, f_anythingBuilt, f_tokenCount, f_parseValue, f_parsePlace, a_ruleTerms, a_ruleLengths, a_skips, a_grammar, a_ranks, a_groupings, a_text, a_heads, a_tails, a_empties, a_placeLetters, a_followers, a_ruleEnds, a_sets, a_steps, a_classes, a_finerClasses, a_states, a_moves, a_begins, a_lookaheads, a_builtCounts, a_builtSteps, a_builtMatches, a_builtSkips, a_builtGrammar, a_builtMoves, a_builtActions, a_tokenRules, a_tokenBegins, a_tokenEnds, a_stackStates, a_stackValues) v (nI c) := ⟨c + 1, xso_3 hc H c 0 (by omega) (fun j hj => absurd hj (Nat.not_lt_zero _))⟩
/-- states and moves listed so far, on both sides -/
def SS (s l : Nat) (b : Nat × (Nat → Int64) × (Nat → Int32)) (sx : Nat → Int64) (mx : Nat → Int32) : Prop :=
  (∀ k, k < b.1 → sx k = b.2.1 k) ∧ ∀ p x, x < 13 → (p < s ∨ (p = s ∧ x < l)) → (sym x → mx (13 * p + x) = b.2.2 (7 * p + col x)) ∧ (¬ sym x → mx (13 * p + x) = -1)
def kap (l : Nat) : Nat := if l ≤ 4 then l else if l ≤ 10 then 4 else l - 6
theorem xst_30 {post : Int32 → SX → Prop} {J17 : Int32 → Int32 → (Nat → Int32) → (Nat → Int32) → (Nat → Int32) → (Nat → Int32) → (Nat → Int32) → (Nat → Int32) → (Nat → Int32) → (Nat → Int32) → (Nat → Int32) → (Nat → Int32) → (Nat → Int32) → (Nat → Int32) → (Nat → Int32) → (Nat → Int64) → (Nat → Int32) → (Nat → Int32) → (Nat → Int32) → (Nat → Int64) → (Nat → Int32) → (Nat → Int32) → (Nat → Int32) → (Nat → Int32) → (Nat → Int32) → (Nat → Int32) → (Nat → Int32) → (Nat → Int32) → (Nat → Int32) → (Nat → Int32) → (Nat → Int32) → (Nat → Int32) → (Nat → Int32) → (Nat → Int32) → (Nat → Int32) → Prop} (hV : gr_V pc L W R) (hX : gr_X a_grammar L W R) {s : Nat} {b0 : Nat × (Nat → Int64) × (Nat → Int32)} (hs40 : s < 40)
    (Hn : row 40 7 (trS pc L W R s (b0.2.1 s)) s b0 7 = none → ∀ (sx : Nat → Int64) (mx : Nat → Int32), post (-1) (nI pc, f_textLength, f_anythingBuilt, f_tokenCount, f_parseValue, f_parsePlace, a_ruleTerms, a_ruleLengths, a_skips, a_grammar, a_ranks, a_groupings, a_text, a_heads, a_tails, a_empties, a_placeLetters, a_followers, a_ruleEnds, a_sets, a_steps, a_classes, a_finerClasses, sx, mx, a_begins, a_lookaheads, a_builtCounts, a_builtSteps, a_builtMatches, a_builtSkips, a_builtGrammar, a_builtMoves, a_builtActions, a_tokenRules, a_tokenBegins, a_tokenEnds, a_stackStates, a_stackValues))
    (Hs : ∀ b (sx : Nat → Int64) (mx : Nat → Int32), row 40 7 (trS pc L W R s (b0.2.1 s)) s b0 7 = some b → SS (s + 1) 0 b sx mx → J17 (nI b.1) (nI (s + 1)) a_ruleTerms a_ruleLengths a_skips a_grammar a_ranks a_groupings a_text a_heads a_tails a_empties a_placeLetters a_followers a_ruleEnds a_sets a_steps a_classes a_finerClasses sx mx a_begins a_lookaheads a_builtCounts a_builtSteps a_builtMatches a_builtSkips a_builtGrammar a_builtMoves a_builtActions a_tokenRules a_tokenBegins a_tokenEnds a_stackStates a_stackValues) :
    ∀ d l b (sx : Nat → Int64) (mx : Nat → Int32), l + d = 13 → row 40 7 (trS pc L W R s (b0.2.1 s)) s b0 (kap l) = some b → b.1 ≤ 40 → s < b.1 → b.2.1 s = b0.2.1 s → SS s l b sx mx →
      wX_findStates_30 post J17 (nI s) (nI pc) f_textLength f_anythingBuilt f_tokenCount f_parseValue f_parsePlace (d + 1) (nI b.1) (nI l) a_ruleTerms a_ruleLengths a_skips a_grammar a_ranks a_groupings a_text a_heads a_tails a_empties a_placeLetters a_followers a_ruleEnds a_sets a_steps a_classes a_finerClasses sx mx a_begins a_lookaheads a_builtCounts a_builtSteps a_builtMatches a_builtSkips a_builtGrammar a_builtMoves a_builtActions a_tokenRules a_tokenBegins a_tokenEnds a_stackStates a_stackValues := by
  intro d
  induction d with
  | zero =>
    intro l b sx mx hl hr g2 g3 g4 h
    have : l = 13 := by omega
    subst this
    refine pk_le 13 13 (fun _ => nm_r (nI_1 s) (Hs b sx mx hr ⟨h.1, fun p x hx hd => h.2 p x hx ?_⟩)) (fun z => absurd z (by omega))
    rcases hd with hd | hd
    · by_cases e : p = s
      · exact Or.inr ⟨e, hx⟩
      · exact Or.inl (by omega)
    · omega
  | succ d ih =>
    intro l b sx mx hl hr g2 g3 g4 h
    obtain ⟨k1, k2⟩ := h
    have e13 : nI s * 13 + nI l = nI (13 * s + l) := by rw [show (13 : Int32) = nI 13 from rfl, pk_mul, nI_add]; congr 1; omega
    have i13 : vp_in (nI (13 * s + l)) 520 := vp_in_nI (by omega) (by omega)
    refine pk_le 13 l (fun z => absurd z (by omega)) (fun _ => ⟨vp_in_nI (by omega) (by omega), ?_⟩)
    rw [nI_clamp (show s < 2 ^ 31 by omega), k1 s g3, g4]
    refine xib hV hX ?_
    by_cases hsy : sym l
    · obtain ⟨hc7, hsc⟩ := col_s hsy
      have hk1 : kap l = col l := by
        unfold kap col
        rcases hsy with h | h
        · rw [if_pos (by omega), if_pos h]
        · rw [if_neg (by omega), if_neg (show ¬ l < 4 by omega)]
          by_cases c : l ≤ 10
          · rw [if_pos c]; omega
          · rw [if_neg c]
      have hk2 : kap (l + 1) = col l + 1 := by
        unfold kap col
        rcases hsy with h | h
        · rw [if_pos (by omega), if_pos h]
        · rw [if_neg (by omega), if_neg (by omega), if_neg (show ¬ l < 4 by omega)]; omega
      rw [hk1] at hr
      have hrow : row 40 7 (trS pc L W R s (b0.2.1 s)) s b0 (col l + 1) = cel 40 (7 * s + col l) (trS pc L W R s (b0.2.1 s) (col l)) b := by
        show (row 40 7 (trS pc L W R s (b0.2.1 s)) s b0 (col l)).bind _ = _
        rw [hr]; rfl
      have hv : trS pc L W R s (b0.2.1 s) (col l) = clo pc L W R (bhF W R (b0.2.1 s) (nI l) 34) := by unfold trS; rw [hsc]
      rw [hv] at hrow
      generalize clo pc L W R (bhF W R (b0.2.1 s) (nI l) 34) = v at hrow
      have hfn : fnd sx v b.1 = fnd b.2.1 v b.1 := by
        obtain ⟨f1, f2, f3⟩ := fnd_s b.2.1 v b.1
        exact fnd_u f1 (fun j hj => by rw [k1 j (by omega)]; exact f2 j hj) (fun hk => by rw [k1 _ hk]; exact f3 hk)
      have next : ∀ b' (sx' : Nat → Int64) (mx' : Nat → Int32), cel 40 (7 * s + col l) v b = some b' → SS s (l + 1) b' sx' mx' → wX_findStates_30 post J17 (nI s) (nI pc) f_textLength f_anythingBuilt f_tokenCount f_parseValue f_parsePlace (d + 1) (nI b'.1) (nI (l + 1)) a_ruleTerms a_ruleLengths a_skips a_grammar a_ranks a_groupings a_text a_heads a_tails a_empties a_placeLetters a_followers a_ruleEnds a_sets a_steps a_classes a_finerClasses (sx') (mx') a_begins a_lookaheads a_builtCounts a_builtSteps a_builtMatches a_builtSkips a_builtGrammar a_builtMoves a_builtActions a_tokenRules a_tokenBegins a_tokenEnds a_stackStates a_stackValues := by
        intro b' sx' mx' hb' h'
        obtain ⟨c1, c2, c3, -⟩ := cel_c g2 hb'
        exact ih (l + 1) b' sx' mx' (by omega) (by rw [hk2]; exact hrow.trans hb') c2 (by omega) (by rw [c3 s g3]; exact g4) h'
      have mxs : ∀ (x : Int32), ∀ p y, y < 13 → (p < s ∨ (p = s ∧ y < l + 1)) → (sym y → upd mx (13 * s + l) x (13 * p + y) = upd b.2.2 (7 * s + col l) x (7 * p + col y)) ∧ (¬ sym y → upd mx (13 * s + l) x (13 * p + y) = -1) := by
        intro x p y hy hd
        by_cases z : p = s ∧ y = l
        · obtain ⟨rfl, rfl⟩ := z
          rw [pk_us, pk_us]; exact ⟨fun _ => rfl, fun h => absurd hsy h⟩
        · rw [pk_un (by omega)]
          obtain ⟨q1, q2⟩ := k2 p y hy (by omega)
          refine ⟨fun h => ?_, q2⟩
          have hcy := col_s h
          rw [pk_un ?_]
          · exact q1 h
          · intro e
            have : p = s := by omega
            have hcc : col y = col l := by omega
            have : y = l := by rw [← hcy.2, ← hsc, hcc]
            omega
      by_cases v0 : v = 0
      · refine br_t v0 (br_f (by decide) (br_f (fun e => zn_ne1 (n := b.1) (by omega) e.symm) ?_))
        unfold wX_findStates_98
        rw [e13, nI_clamp (by omega)]
        refine ⟨i13, nm_e (nm_r (nI_1 l) (next (b.1, b.2.1, upd b.2.2 (7 * s + col l) (-1)) sx _ ?_ ⟨k1, mxs _⟩))⟩
        unfold cel; rw [if_pos v0]
      · refine br_f v0 (xso_ (a_states := sx) g2 ?_)
        rw [hfn]
        obtain ⟨f1, f2, f3⟩ := fnd_s b.2.1 v b.1
        generalize hk : fnd b.2.1 v b.1 = k at f1 f2 f3
        refine pk_eq k 40 (fun e40 => ?_) (fun n40 => pk_eq k b.1 (fun e => ⟨vp_in_nI (by omega) (by omega), ?_⟩) (fun ne => ?_))
        · have : cel 40 (7 * s + col l) v b = none := by
            unfold cel; rw [if_neg v0, hk, if_pos e40]
          rw [this] at hrow
          have h4 := row_n hrow (6 - col l)
          rw [show col l + 1 + (6 - col l) = 7 by omega] at h4
          exact Hn h4 sx mx
        · rw [nI_clamp (show b.1 < 2 ^ 31 by omega)]
          refine nm_e (nm_r (nI_1 b.1) ?_)
          unfold wX_findStates_98
          rw [e13, nI_clamp (by omega), e]
          refine ⟨i13, nm_e (nm_r (nI_1 l) (next (b.1 + 1, vp_updL b.2.1 b.1 v, upd b.2.2 (7 * s + col l) (nI b.1)) (vp_updL sx b.1 v) _ ?_ ⟨fun j j2 => ?_, mxs _⟩))⟩
          · unfold cel; rw [if_neg v0, hk, if_neg n40, if_pos e]
          · show vp_updL sx b.1 v j = vp_updL b.2.1 b.1 v j
            by_cases z : j = b.1
            · subst z; rw [ul_s, ul_s]
            · have : j < b.1 + 1 := j2
              rw [ul_n z, ul_n z]; exact k1 j (by omega)
        · unfold wX_findStates_98
          rw [e13, nI_clamp (by omega)]
          refine ⟨i13, nm_e (nm_r (nI_1 l) (next (b.1, b.2.1, upd b.2.2 (7 * s + col l) (nI k)) sx _ ?_ ⟨k1, mxs _⟩))⟩
          unfold cel; rw [if_neg v0, hk, if_neg n40, if_neg ne]
    · have hv := bh_no hV (v := b0.2.1 s) hsy (by omega)
      have hl : 4 ≤ l ∧ l < 10 := by
        unfold sym at hsy
        omega
      have hk2 : kap (l + 1) = kap l := by
        unfold kap
        rw [if_neg (show ¬ l + 1 ≤ 4 by omega), if_pos (show l + 1 ≤ 10 by omega)]
        by_cases c : l ≤ 4
        · rw [if_pos c]; omega
        · rw [if_neg c, if_pos (by omega)]
      rw [hv]
      refine br_t rfl (br_f (by decide) (br_f (fun e => zn_ne1 (n := b.1) (by omega) e.symm) ?_))
      unfold wX_findStates_98
      rw [e13, nI_clamp (by omega)]
      refine ⟨i13, nm_e (nm_r (nI_1 l) (ih (l + 1) b sx _ (by omega) (by rw [hk2]; exact hr) g2 g3 g4 ⟨k1, fun p y hy hd => ?_⟩))⟩
      by_cases z : p = s ∧ y = l
      · obtain ⟨rfl, rfl⟩ := z
        rw [pk_us]; exact ⟨fun h => absurd h hsy, fun _ => rfl⟩
      · rw [pk_un (by omega)]
        exact k2 p y hy (by omega)
theorem xst_17 {post : Int32 → SX → Prop} (hV : gr_V pc L W R) (hX : gr_X a_grammar L W R) {b0 : Nat × (Nat → Int64) × (Nat → Int32)} (h1 : b0.1 = 1)
    (Hn : bf 40 7 (trS pc L W R) b0 40 = none → ∀ (sx : Nat → Int64) (mx : Nat → Int32), post (-1) (nI pc, f_textLength, f_anythingBuilt, f_tokenCount, f_parseValue, f_parsePlace, a_ruleTerms, a_ruleLengths, a_skips, a_grammar, a_ranks, a_groupings, a_text, a_heads, a_tails, a_empties, a_placeLetters, a_followers, a_ruleEnds, a_sets, a_steps, a_classes, a_finerClasses, sx, mx, a_begins, a_lookaheads, a_builtCounts, a_builtSteps, a_builtMatches, a_builtSkips, a_builtGrammar, a_builtMoves, a_builtActions, a_tokenRules, a_tokenBegins, a_tokenEnds, a_stackStates, a_stackValues))
    (Hs : ∀ b (sx : Nat → Int64) (mx : Nat → Int32), bf 40 7 (trS pc L W R) b0 40 = some b → SS b.1 0 b sx mx → post (nI b.1) (nI pc, f_textLength, f_anythingBuilt, f_tokenCount, f_parseValue, f_parsePlace, a_ruleTerms, a_ruleLengths, a_skips, a_grammar, a_ranks, a_groupings, a_text, a_heads, a_tails, a_empties, a_placeLetters, a_followers, a_ruleEnds, a_sets, a_steps, a_classes, a_finerClasses, sx, mx, a_begins, a_lookaheads, a_builtCounts, a_builtSteps, a_builtMatches, a_builtSkips, a_builtGrammar, a_builtMoves, a_builtActions, a_tokenRules, a_tokenBegins, a_tokenEnds, a_stackStates, a_stackValues)) :
    ∀ d s b (sx : Nat → Int64) (mx : Nat → Int32), s + d = 40 → s ≤ b.1 → bf 40 7 (trS pc L W R) b0 s = some b → SS s 0 b sx mx →
      wX_findStates_17 post (nI pc) f_textLength f_anythingBuilt f_tokenCount f_parseValue f_parsePlace (d + 1) (nI b.1) (nI s) a_ruleTerms a_ruleLengths a_skips a_grammar a_ranks a_groupings a_text a_heads a_tails a_empties a_placeLetters a_followers a_ruleEnds a_sets a_steps a_classes a_finerClasses sx mx a_begins a_lookaheads a_builtCounts a_builtSteps a_builtMatches a_builtSkips a_builtGrammar a_builtMoves a_builtActions a_tokenRules a_tokenBegins a_tokenEnds a_stackStates a_stackValues := by
  intro d
  induction d with
  | zero =>
    intro s b sx mx hs hsb hb h
    have : s = 40 := by omega
    subst this
    obtain ⟨⟨i1, i2, -⟩, -⟩ := bf_i h1 (by omega) 40 b hb
    have e : b.1 = 40 := by omega
    rw [← e] at h
    exact pk_le 40 40 (fun _ => Hs b sx mx hb h) (fun z => absurd z (by omega))
  | succ d ih =>
    intro s b sx mx hs hsb hb h
    obtain ⟨⟨i1, i2, i3⟩, i4⟩ := bf_i h1 (by omega) s b hb
    refine pk_le 40 s (fun z => absurd z (by omega)) (fun _ => pk_le b.1 s (fun z => ?_) (fun z => ?_))
    · have e : b.1 = s := by omega
      have := bf_e hb z (40 - s)
      rw [show s + (40 - s) = 40 by omega] at this
      rw [← e] at h
      exact Hs b sx mx this h
    · have hstep : bf 40 7 (trS pc L W R) b0 (s + 1) = row 40 7 (trS pc L W R s (b.2.1 s)) s b 7 := by
        show (bf 40 7 (trS pc L W R) b0 s).bind _ = _
        rw [hb]
        show (if s < b.1 then _ else _) = _
        rw [if_pos z]
      refine ⟨14, xst_30 hV hX (b0 := b) (by omega) (fun hn sx' mx' => ?_) (fun b' sx' mx' hb' h' => ?_) 13 0 b sx mx (by omega) rfl i2 z rfl h⟩
      · rw [hn] at hstep
        have := bf_n hstep (39 - s)
        rw [show s + 1 + (39 - s) = 40 by omega] at this
        exact Hn this sx' mx'
      · obtain ⟨-, j5, -⟩ := row_i z ⟨i1, i2, i3⟩ 7 b' (Nat.le_refl _) hb'
        rw [hb'] at hstep
        exact ih (s + 1) b' sx' mx' (by omega) (by omega) hstep h'
theorem x_states {post : Int32 → SX → Prop} (hV : gr_V pc L W R) (hX : gr_X a_grammar L W R) {G0 : Nat → Int64} {M0 : Nat → Int32} (hG : G0 0 = st0 pc L W R)
    (Hn : bf 40 7 (trS pc L W R) (1, G0, M0) 40 = none → ∀ (sx : Nat → Int64) (mx : Nat → Int32), post (-1) (nI pc, f_textLength, f_anythingBuilt, f_tokenCount, f_parseValue, f_parsePlace, a_ruleTerms, a_ruleLengths, a_skips, a_grammar, a_ranks, a_groupings, a_text, a_heads, a_tails, a_empties, a_placeLetters, a_followers, a_ruleEnds, a_sets, a_steps, a_classes, a_finerClasses, sx, mx, a_begins, a_lookaheads, a_builtCounts, a_builtSteps, a_builtMatches, a_builtSkips, a_builtGrammar, a_builtMoves, a_builtActions, a_tokenRules, a_tokenBegins, a_tokenEnds, a_stackStates, a_stackValues))
    (Hs : ∀ b (sx : Nat → Int64) (mx : Nat → Int32), bf 40 7 (trS pc L W R) (1, G0, M0) 40 = some b → SS b.1 0 b sx mx → post (nI b.1) (nI pc, f_textLength, f_anythingBuilt, f_tokenCount, f_parseValue, f_parsePlace, a_ruleTerms, a_ruleLengths, a_skips, a_grammar, a_ranks, a_groupings, a_text, a_heads, a_tails, a_empties, a_placeLetters, a_followers, a_ruleEnds, a_sets, a_steps, a_classes, a_finerClasses, sx, mx, a_begins, a_lookaheads, a_builtCounts, a_builtSteps, a_builtMatches, a_builtSkips, a_builtGrammar, a_builtMoves, a_builtActions, a_tokenRules, a_tokenBegins, a_tokenEnds, a_stackStates, a_stackValues)) : wpX_findStates post (nI pc, f_textLength, f_anythingBuilt, f_tokenCount, f_parseValue, f_parsePlace, a_ruleTerms, a_ruleLengths, a_skips, a_grammar, a_ranks, a_groupings, a_text, a_heads, a_tails, a_empties, a_placeLetters, a_followers, a_ruleEnds, a_sets, a_steps, a_classes, a_finerClasses, a_states, a_moves, a_begins, a_lookaheads, a_builtCounts, a_builtSteps, a_builtMatches, a_builtSkips, a_builtGrammar, a_builtMoves, a_builtActions, a_tokenRules, a_tokenBegins, a_tokenEnds, a_stackStates, a_stackValues) := by
  refine xcl hV hX (nm_e ⟨41, xst_17 hV hX (b0 := (1, G0, M0)) rfl Hn Hs 40 0 (1, G0, M0) (vp_updL a_states 0 (st0 pc L W R)) a_moves (by omega) (by show 0 ≤ 1; omega) rfl ⟨fun k hk => ?_, fun p x hx hd => by omega⟩⟩)
  have : k = 0 := by
    have : k < 1 := hk
    omega
  subst this
  rw [ul_s]; exact hG.symm
end
