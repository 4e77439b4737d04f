/-! lookaheads: the reference -/
def YL (a : Nat → Int32) (la : Nat → Nat → Int32) : Prop := ∀ s i, s < 40 → i < 34 → a (36 * s + i) = la s i
theorem YL_a {a : Nat → Int32} {la : Nat → Nat → Int32} (h : YL a la) {t i : Nat} {v : Int32} (hi : i < 34) : YL (upd a (36 * t + i) (la t i ||| v)) (adL la t i v) := by
  intro p q hp hq
  unfold adL
  by_cases e : p = t ∧ q = i
  · rw [if_pos e]; obtain ⟨rfl, rfl⟩ := e; exact pk_us
  · rw [if_neg e, pk_un (by omega)]; exact h p q hp hq
theorem b2_or (g h : Bool) : b2 g ||| b2 h = b2 (g || h) := by cases g <;> cases h <;> decide
section
variable {g_productions : Int32} {g_start : Int64} {g_sets g_states g_conflicts g_ready g_length g_tokens g_stuck g_scanned g_value g_place : Int32} {b_term b_size b_skipped b_left b_right b_width b_op b_constant b_rank b_grouping b_bTerm b_bSize b_bSkipped b_bLeft b_bWidth b_bOp b_bConstant : Nat → Int32} {b_follow b_ends b_first b_last : Nat → Int64} {b_none : Nat → Int32} {b_set : Nat → Int64} {b_leads b_apart : Nat → Int32} {b_state : Nat → Int64} {b_to b_look b_begins b_nullable b_act b_built b_leadTo b_text b_fits b_token b_stack b_worth : Nat → Int32} {pc ns : Nat} {L W : Nat → Nat} {R : Nat → Nat → Nat} {bs : (Nat → Int32) × (Nat → Int32)} {M : Nat → Int32}
theorem yha {post : Int32 → SY → Prop} {t i : Nat} {v : Int32} {la : Nat → Nat → Int32} (ht : t < 40) (hi : i < 34) (hl : YL b_look la)
    (H : post (b2 (!((la t i ||| v) == la t i))) (g_productions, g_start, g_sets, g_states, g_conflicts, g_ready, g_length, g_tokens, g_stuck, g_scanned, g_value, g_place, b_term, b_size, b_skipped, b_left, b_right, b_width, b_op, b_constant, b_rank, b_grouping, b_bTerm, b_bSize, b_bSkipped, b_bLeft, b_bWidth, b_bOp, b_bConstant, b_follow, b_ends, b_first, b_last, b_none, b_set, b_leads, b_apart, b_state, b_to, upd b_look (36 * t + i) (la t i ||| v), b_begins, b_nullable, b_act, b_built, b_leadTo, b_text, b_fits, b_token, b_stack, b_worth)) : wpY_has post (g_productions, g_start, g_sets, g_states, g_conflicts, g_ready, g_length, g_tokens, g_stuck, g_scanned, g_value, g_place, b_term, b_size, b_skipped, b_left, b_right, b_width, b_op, b_constant, b_rank, b_grouping, b_bTerm, b_bSize, b_bSkipped, b_bLeft, b_bWidth, b_bOp, b_bConstant, b_follow, b_ends, b_first, b_last, b_none, b_set, b_leads, b_apart, b_state, b_to, b_look, b_begins, b_nullable, b_act, b_built, b_leadTo, b_text, b_fits, b_token, b_stack, b_worth) (nI (36 * t + i)) v := by
  have ii : vp_in (nI (36 * t + i)) 1476 := vp_in_nI (by omega) (by omega)
  unfold wpY_has wY_has_22
  dsimp only
  rw [nI_clamp (by omega), hl t i ht hi]
  refine ⟨ii, ii, br_c (fun e => ?_) (fun e => ?_)⟩
  · rw [show ((la t i ||| v) == la t i) = true from by rw [e]; simp] at H
    exact ⟨ii, ii, nm_e ⟨rfl, H⟩⟩
  · rw [show ((la t i ||| v) == la t i) = false from beq_eq_false_iff_ne.mpr e] at H
    exact ⟨ii, ii, nm_e ⟨rfl, H⟩⟩
theorem yk_164 {post : SY → Prop} {J33 : Int32 → Int32 → Int64 → Int32 → Int32 → Int32 → Int32 → Int32 → Int32 → Int32 → Int32 → Int32 → Int32 → (Nat → Int32) → (Nat → Int32) → (Nat → Int32) → (Nat → Int32) → (Nat → Int32) → (Nat → Int32) → (Nat → Int32) → (Nat → Int32) → (Nat → Int32) → (Nat → Int32) → (Nat → Int32) → (Nat → Int32) → (Nat → Int32) → (Nat → Int32) → (Nat → Int32) → (Nat → Int32) → (Nat → Int32) → (Nat → Int64) → (Nat → Int64) → (Nat → Int64) → (Nat → Int64) → (Nat → Int32) → (Nat → Int64) → (Nat → Int32) → (Nat → Int32) → (Nat → Int64) → (Nat → Int32) → (Nat → Int32) → (Nat → Int32) → (Nat → Int32) → (Nat → Int32) → (Nat → Int32) → (Nat → Int32) → (Nat → Int32) → (Nat → Int32) → (Nat → Int32) → (Nat → Int32) → (Nat → Int32) → Prop} {J41 : Int32 → Int32 → Int32 → Int64 → Int32 → Int32 → Int32 → Int32 → Int32 → Int32 → Int32 → Int32 → Int32 → Int32 → (Nat → Int32) → (Nat → Int32) → (Nat → Int32) → (Nat → Int32) → (Nat → Int32) → (Nat → Int32) → (Nat → Int32) → (Nat → Int32) → (Nat → Int32) → (Nat → Int32) → (Nat → Int32) → (Nat → Int32) → (Nat → Int32) → (Nat → Int32) → (Nat → Int32) → (Nat → Int32) → (Nat → Int32) → (Nat → Int64) → (Nat → Int64) → (Nat → Int64) → (Nat → Int64) → (Nat → Int32) → (Nat → Int64) → (Nat → Int32) → (Nat → Int32) → (Nat → Int64) → (Nat → Int32) → (Nat → Int32) → (Nat → Int32) → (Nat → Int32) → (Nat → Int32) → (Nat → Int32) → (Nat → Int32) → (Nat → Int32) → (Nat → Int32) → (Nat → Int32) → (Nat → Int32) → (Nat → Int32) → Prop} {s x k : Nat} {v : Int32} {z1 : (Nat → Nat → Int32) × Bool} {g0 : Bool} (hs : s < 40) (hx : x < 13) (hV : gr_V pc L W R) (hY : gr_Y b_left b_right b_width L W R)
    (H : ∀ b : Nat → Int32, YL b (fldP L s x v pc z1).1 → J41 (b2 (g0 || (fldP L s x v pc z1).2)) (nI (k + 1)) (nI pc) g_start g_sets g_states g_conflicts g_ready g_length g_tokens g_stuck g_scanned g_value g_place b_term b_size b_skipped b_left b_right b_width b_op b_constant b_rank b_grouping b_bTerm b_bSize b_bSkipped b_bLeft b_bWidth b_bOp b_bConstant b_follow b_ends b_first b_last b_none b_set b_leads b_apart b_state b_to b b_begins b_nullable b_act b_built b_leadTo b_text b_fits b_token b_stack b_worth) :
    ∀ d p (b : Nat → Int32), p + d = pc → YL b (fldP L s x v p z1).1 → wY_carry_164 post J33 J41 (nI k) (nI s) (nI x) v (d + 1) (b2 (g0 || (fldP L s x v p z1).2)) (nI p) (nI pc) g_start g_sets g_states g_conflicts g_ready g_length g_tokens g_stuck g_scanned g_value g_place b_term b_size b_skipped b_left b_right b_width b_op b_constant b_rank b_grouping b_bTerm b_bSize b_bSkipped b_bLeft b_bWidth b_bOp b_bConstant b_follow b_ends b_first b_last b_none b_set b_leads b_apart b_state b_to b b_begins b_nullable b_act b_built b_leadTo b_text b_fits b_token b_stack b_worth := by
  have hpc := hV.1
  intro d
  induction d with
  | zero =>
    intro p b hp h
    have : p = pc := by omega
    subst this
    exact pk_le p p (fun _ => nm_r (nI_1 k) (H b h)) (fun z => absurd z (by omega))
  | succ d ih =>
    intro p b hp h
    have hL := (hV.2.1 p).1
    have ih' := ih (p + 1)
    rw [fldP] at ih'
    refine pk_le pc p (fun z => absurd z (by omega)) (fun _ => ⟨vp_in_nI (by omega) (by omega), ?_⟩)
    rw [nI_clamp (show p < 2 ^ 31 by omega), (hY p (by omega)).1, show 36 * nI s + 4 * nI p = nI (36 * s + 4 * p) from by rw [show (36 : Int32) = nI 36 from rfl, show (4 : Int32) = nI 4 from rfl, pk_mul, pk_mul, nI_add]]
    refine pk_eq (L p) x (fun e => ?_) (fun e => ?_)
    · rw [if_pos e] at ih'
      generalize fldP L s x v p z1 = z at h ih'
      refine yha (b_look := b) hs (by omega) h ?_
      dsimp only
      have ih2 := ih' (upd b (36 * s + 4 * p) (z.1 s (4 * p) ||| v)) (by omega) (YL_a h (by omega))
      unfold add_ at ih2
      dsimp only at ih2
      rw [← Bool.or_assoc, ← b2_or] at ih2
      exact nm_e (nm_r (nI_1 p) ih2)
    · rw [if_neg e] at ih'
      exact nm_r (nI_1 p) (ih' b (by omega) h)
theorem yk_row {post : SY → Prop} {J33 : Int32 → Int32 → Int64 → Int32 → Int32 → Int32 → Int32 → Int32 → Int32 → Int32 → Int32 → Int32 → Int32 → (Nat → Int32) → (Nat → Int32) → (Nat → Int32) → (Nat → Int32) → (Nat → Int32) → (Nat → Int32) → (Nat → Int32) → (Nat → Int32) → (Nat → Int32) → (Nat → Int32) → (Nat → Int32) → (Nat → Int32) → (Nat → Int32) → (Nat → Int32) → (Nat → Int32) → (Nat → Int32) → (Nat → Int32) → (Nat → Int64) → (Nat → Int64) → (Nat → Int64) → (Nat → Int64) → (Nat → Int32) → (Nat → Int64) → (Nat → Int32) → (Nat → Int32) → (Nat → Int64) → (Nat → Int32) → (Nat → Int32) → (Nat → Int32) → (Nat → Int32) → (Nat → Int32) → (Nat → Int32) → (Nat → Int32) → (Nat → Int32) → (Nat → Int32) → (Nat → Int32) → (Nat → Int32) → (Nat → Int32) → Prop} {s n : Nat} {z : (Nat → Nat → Int32) × Bool} (hH : laH pc ns L W R bs b_state b_to) (hY : gr_Y b_left b_right b_width L W R) (hB : YR b_begins b_nullable bs) (hs : s < ns)
    (H : ∀ b : Nat → Int32, YL b (rowL pc L W R bs b_state b_to s 34 z).1 → wY_carry_41 post J33 n (b2 (rowL pc L W R bs b_state b_to s 34 z).2) (nI (36 * (s + 1))) (nI pc) g_start g_sets (nI ns) g_conflicts g_ready g_length g_tokens g_stuck g_scanned g_value g_place b_term b_size b_skipped b_left b_right b_width b_op b_constant b_rank b_grouping b_bTerm b_bSize b_bSkipped b_bLeft b_bWidth b_bOp b_bConstant b_follow b_ends b_first b_last b_none b_set b_leads b_apart b_state b_to b b_begins b_nullable b_act b_built b_leadTo b_text b_fits b_token b_stack b_worth) :
    ∀ d i (b : Nat → Int32), i + d = 36 → YL b (rowL pc L W R bs b_state b_to s (if i < 34 then i else 34) z).1 → wY_carry_41 post J33 (n + d) (b2 (rowL pc L W R bs b_state b_to s (if i < 34 then i else 34) z).2) (nI (36 * s + i)) (nI pc) g_start g_sets (nI ns) g_conflicts g_ready g_length g_tokens g_stuck g_scanned g_value g_place b_term b_size b_skipped b_left b_right b_width b_op b_constant b_rank b_grouping b_bTerm b_bSize b_bSkipped b_bLeft b_bWidth b_bOp b_bConstant b_follow b_ends b_first b_last b_none b_set b_leads b_apart b_state b_to b b_begins b_nullable b_act b_built b_leadTo b_text b_fits b_token b_stack b_worth := by
  obtain ⟨hV, hbs, hns, h34, hT⟩ := id hH
  intro d
  induction d with
  | zero =>
    intro i b hi h
    have : i = 36 := by omega
    subst this
    rw [if_neg (by omega)] at h ⊢
    rw [show 36 * s + 36 = 36 * (s + 1) by omega]
    exact H b h
  | succ d ih =>
    intro i b hi h
    have e36 : 36 * nI ns = nI (36 * ns) := by rw [show (36 : Int32) = nI 36 from rfl, pk_mul]
    have ih' := ih (i + 1)
    rw [← Nat.add_assoc] at ih'
    refine pk_le (36 * ns) (36 * s + i) (fun z => absurd z (by omega)) (fun _ => ?_) e36
    rw [show (36 : Int32) = nI 36 from rfl, pk_rem (by omega) (by omega) (by omega), pk_div (by omega) (by omega) (by omega), show (36 * s + i) % 36 = i by omega, show (36 * s + i) / 36 = s by omega]
    refine ⟨by decide, nm_e ⟨by decide, nm_e (yy_ (by omega) hV hY ?_)⟩⟩
    by_cases c34 : i < 34
    · rw [if_pos c34] at h ⊢
      have ei1 : (if i + 1 < 34 then i + 1 else 34) = i + 1 := by
        by_cases c : i + 1 < 34
        · rw [if_pos c]
        · rw [if_neg c]; omega
      rw [ei1, rowL] at ih'
      generalize rowL pc L W R bs b_state b_to s i z = w at h ih'
      unfold nxt
      by_cases c : i % 4 < W (i / 4)
      · rw [if_pos c]
        have hsy : sym (R (i / 4) (i % 4)) := (hV.2.1 (i / 4)).2.2 _ c
        have hx13 : R (i / 4) (i % 4) < 13 := by rcases hsy with z | z <;> omega
        refine br_f (nI_pos (by omega)) ⟨vp_in_nI (by omega) (by omega), ?_⟩
        rw [nI_clamp (show s < 2 ^ 31 by omega)]
        refine zb_b0 i (fun hb => nm_r (nI_1 (36 * s + i)) ?_) (fun hb => ycol hsy ?_)
        · rw [if_neg (by rw [hb]; decide)] at ih'
          exact ih' b (by omega) h
        · rw [if_pos hb] at ih'
          obtain ⟨t, ht, et⟩ := hT s i hs c34 hb c
          obtain ⟨q1, q2, q3, q4, q5⟩ := i33 hV c34 c
          unfold hO at ih'
          rw [if_pos c, et, nI_clamp (by omega)] at ih'
          have hcl := (col_s hsy).1
          rw [show 7 * nI s + nI (col (R (i / 4) (i % 4))) = nI (7 * s + col (R (i / 4) (i % 4))) from by rw [show (7 : Int32) = nI 7 from rfl, pk_mul, nI_add], nI_clamp (show 7 * s + col (R (i / 4) (i % 4)) < 2 ^ 31 by omega), et, nI_clamp (show 36 * s + i < 2 ^ 31 by omega), h s i (by omega) c34]
          generalize R (i / 4) (i % 4) = x at hsy hx13 ih' hcl
          refine ⟨vp_in_nI (by omega) (by omega), vp_in_nI (by omega) (by omega), ?_⟩
          rw [show nI 36 * nI t + nI i + 1 = nI (36 * t + (i + 1)) from by rw [pk_mul, nI_add, nI_1]; congr 1]
          refine yha (b_look := b) (by omega) (by omega) h ?_
          dsimp only
          have hYL := YL_a h (t := t) (i := i + 1) (v := w.1 s i) (by omega)
          have eu : upd b (36 * t + (i + 1)) (w.1 t (i + 1) ||| w.1 s i) (36 * s + i) = w.1 s i := by
            rw [pk_un (by omega)]; exact h s i (by omega) c34
          refine nm_r (b2_or w.2 _) (pk_le 10 x (fun c10 => ?_) (fun c10 => nm_r (nI_1 (36 * s + i)) ?_))
          · rw [if_neg (show ¬ x < 10 by omega)] at ih'
            rw [show (4 : Int32) = nI 4 from rfl, pk_rem (by omega) (by omega) (by omega), pk_div (by omega) (by omega) (by omega), nI_1 (i % 4), eu]
            refine ⟨by decide, by decide, vp_in_nI (by omega) (by omega), yr_b q3 q4 hV hY hB ?_⟩
            have h0 : ∀ b' : Nat → Int32, YL b' (fldP L s x (rsv (rst W R bs (i / 4) (i % 4 + 1)) (w.1 s i)) pc (add_ t (i + 1) (w.1 s i) (w.1, false))).1 → wY_carry_41 post J33 (n + d) (b2 (w.2 || (fldP L s x (rsv (rst W R bs (i / 4) (i % 4 + 1)) (w.1 s i)) pc (add_ t (i + 1) (w.1 s i) (w.1, false))).2)) (nI (36 * s + i + 1)) (nI pc) g_start g_sets (nI ns) g_conflicts g_ready g_length g_tokens g_stuck g_scanned g_value g_place b_term b_size b_skipped b_left b_right b_width b_op b_constant b_rank b_grouping b_bTerm b_bSize b_bSkipped b_bLeft b_bWidth b_bOp b_bConstant b_follow b_ends b_first b_last b_none b_set b_leads b_apart b_state b_to (b') b_begins b_nullable b_act b_built b_leadTo b_text b_fits b_token b_stack b_worth := fun b' hb' => ih' b' (by omega) hb'
            have h1 := yk_164 (post := post) (J33 := J33) (g_states := nI ns) (g0 := w.2) (k := 36 * s + i) (s := s) (x := x) (v := rsv (rst W R bs (i / 4) (i % 4 + 1)) (w.1 s i)) (z1 := add_ t (i + 1) (w.1 s i) (w.1, false)) (by omega) hx13 hV hY h0 pc 0 _ (by omega) hYL
            have e0 : (fldP L s x (rsv (rst W R bs (i / 4) (i % 4 + 1)) (w.1 s i)) 0 (add_ t (i + 1) (w.1 s i) (w.1, false))).2 = !((w.1 t (i + 1) ||| w.1 s i) == w.1 t (i + 1)) := by
              show (add_ t (i + 1) (w.1 s i) (w.1, false)).2 = _
              unfold add_; simp only [Bool.false_or]
            rw [e0] at h1
            exact ⟨pc + 1, h1⟩
          · rw [if_pos (show x < 10 by omega)] at ih'
            have := ih' _ (by omega) hYL
            unfold add_ at this
            simp only [Bool.false_or] at this
            exact this
      · rw [if_neg c]
        have hz : hO pc L W R bs b_to s i w.1 = (w.1, false) := by unfold hO; rw [if_neg c]
        rw [hz] at ih'
        simp only [Bool.or_false] at ih'
        refine br_t (by decide) (nm_r (nI_1 (36 * s + i)) ?_)
        have := ih' b (by omega)
        split at this
        · exact this h
        · exact this h
    · rw [if_neg c34] at h ⊢
      rw [if_neg (show ¬ i + 1 < 34 by omega)] at ih'
      have : nxt W R i = -1 := by
        unfold nxt
        rw [show i / 4 = 8 by omega, hV.2.2.2.2.1, if_neg (by omega)]
      rw [this]
      exact br_t (by decide) (nm_r (nI_1 (36 * s + i)) (ih' b (by omega) h))
theorem yk_all {post : SY → Prop} {J33 : Int32 → Int32 → Int64 → Int32 → Int32 → Int32 → Int32 → Int32 → Int32 → Int32 → Int32 → Int32 → Int32 → (Nat → Int32) → (Nat → Int32) → (Nat → Int32) → (Nat → Int32) → (Nat → Int32) → (Nat → Int32) → (Nat → Int32) → (Nat → Int32) → (Nat → Int32) → (Nat → Int32) → (Nat → Int32) → (Nat → Int32) → (Nat → Int32) → (Nat → Int32) → (Nat → Int32) → (Nat → Int32) → (Nat → Int32) → (Nat → Int64) → (Nat → Int64) → (Nat → Int64) → (Nat → Int64) → (Nat → Int32) → (Nat → Int64) → (Nat → Int32) → (Nat → Int32) → (Nat → Int64) → (Nat → Int32) → (Nat → Int32) → (Nat → Int32) → (Nat → Int32) → (Nat → Int32) → (Nat → Int32) → (Nat → Int32) → (Nat → Int32) → (Nat → Int32) → (Nat → Int32) → (Nat → Int32) → (Nat → Int32) → Prop} {z : (Nat → Nat → Int32) × Bool} (hH : laH pc ns L W R bs b_state b_to) (hY : gr_Y b_left b_right b_width L W R) (hB : YR b_begins b_nullable bs)
    (H : ∀ b : Nat → Int32, YL b (allL pc L W R bs b_state b_to ns z).1 → J33 (b2 (allL pc L W R bs b_state b_to ns z).2) (nI pc) g_start g_sets (nI ns) g_conflicts g_ready g_length g_tokens g_stuck g_scanned g_value g_place b_term b_size b_skipped b_left b_right b_width b_op b_constant b_rank b_grouping b_bTerm b_bSize b_bSkipped b_bLeft b_bWidth b_bOp b_bConstant b_follow b_ends b_first b_last b_none b_set b_leads b_apart b_state b_to b b_begins b_nullable b_act b_built b_leadTo b_text b_fits b_token b_stack b_worth) :
    ∀ d s (b : Nat → Int32), s + d = ns → YL b (allL pc L W R bs b_state b_to s z).1 → wY_carry_41 post J33 (36 * d + 1) (b2 (allL pc L W R bs b_state b_to s z).2) (nI (36 * s)) (nI pc) g_start g_sets (nI ns) g_conflicts g_ready g_length g_tokens g_stuck g_scanned g_value g_place b_term b_size b_skipped b_left b_right b_width b_op b_constant b_rank b_grouping b_bTerm b_bSize b_bSkipped b_bLeft b_bWidth b_bOp b_bConstant b_follow b_ends b_first b_last b_none b_set b_leads b_apart b_state b_to b b_begins b_nullable b_act b_built b_leadTo b_text b_fits b_token b_stack b_worth := by
  have hns := hH.2.2.1
  intro d
  induction d with
  | zero =>
    intro s b hs h
    have : s = ns := by omega
    subst this
    have e36 : 36 * nI s = nI (36 * s) := by rw [show (36 : Int32) = nI 36 from rfl, pk_mul]
    exact pk_le (36 * s) (36 * s) (fun _ => H b h) (fun z => absurd z (by omega)) e36
  | succ d ih =>
    intro s b hs h
    have := yk_row (post := post) (J33 := J33) (n := 36 * d + 1) (z := allL pc L W R bs b_state b_to s z) hH hY hB (show s < ns by omega) (fun b' h' => ih (s + 1) b' (by omega) h') 36 0 b (by omega) h
    rw [show 36 * d + 1 + 36 = 36 * (d + 1) + 1 by omega] at this
    exact this
theorem yk_33 {post : SY → Prop} {N : Nat} (hH : laH pc ns L W R bs b_state b_to) (hY : gr_Y b_left b_right b_width L W R) (hB : YR b_begins b_nullable bs) (h1 : ∀ k, k < N → (allL pc L W R bs b_state b_to ns (laK pc L W R bs b_state b_to ns k, false)).2 = true) (h2 : (allL pc L W R bs b_state b_to ns (laK pc L W R bs b_state b_to ns N, false)).2 = false)
    (H : ∀ b : Nat → Int32, YL b (laK pc L W R bs b_state b_to ns (N + 1)) → post (nI pc, g_start, g_sets, nI ns, g_conflicts, g_ready, g_length, g_tokens, g_stuck, g_scanned, g_value, g_place, b_term, b_size, b_skipped, b_left, b_right, b_width, b_op, b_constant, b_rank, b_grouping, b_bTerm, b_bSize, b_bSkipped, b_bLeft, b_bWidth, b_bOp, b_bConstant, b_follow, b_ends, b_first, b_last, b_none, b_set, b_leads, b_apart, b_state, b_to, b, b_begins, b_nullable, b_act, b_built, b_leadTo, b_text, b_fits, b_token, b_stack, b_worth)) :
    ∀ d k (b : Nat → Int32) (g : Bool), k + d = N + 1 → YL b (laK pc L W R bs b_state b_to ns k) → (g = true ↔ k ≤ N) → wY_carry_33 post (d + 1) (b2 g) (nI pc) g_start g_sets (nI ns) g_conflicts g_ready g_length g_tokens g_stuck g_scanned g_value g_place b_term b_size b_skipped b_left b_right b_width b_op b_constant b_rank b_grouping b_bTerm b_bSize b_bSkipped b_bLeft b_bWidth b_bOp b_bConstant b_follow b_ends b_first b_last b_none b_set b_leads b_apart b_state b_to b b_begins b_nullable b_act b_built b_leadTo b_text b_fits b_token b_stack b_worth := by
  intro d
  induction d with
  | zero =>
    intro k b g hk h hg
    have : k = N + 1 := by omega
    subst this
    have g0 : g = false := by
      cases g with
      | false => rfl
      | true => have := hg.mp rfl; omega
    subst g0
    exact br_t rfl (H b h)
  | succ d ih =>
    intro k b g hk h hg
    have g1 : g = true := hg.mpr (by omega)
    subst g1
    refine br_f (by decide) ⟨36 * ns + 1, ?_⟩
    refine yk_all (z := (laK pc L W R bs b_state b_to ns k, false)) hH hY hB (fun b' h' => ih (k + 1) b' _ (by omega) h' ⟨fun e => ?_, fun e => h1 k (by omega)⟩) ns 0 b (by omega) h
    rcases Nat.lt_or_ge k N with c | c
    · omega
    · have : k = N := by omega
      subst this
      rw [h2] at e; exact absurd e (by decide)
theorem yk_2 {post : SY → Prop} {N : Nat} (hH : laH pc ns L W R bs b_state b_to) (hY : gr_Y b_left b_right b_width L W R) (hB : YR b_begins b_nullable bs) (h1 : ∀ k, k < N → (allL pc L W R bs b_state b_to ns (laK pc L W R bs b_state b_to ns k, false)).2 = true) (h2 : (allL pc L W R bs b_state b_to ns (laK pc L W R bs b_state b_to ns N, false)).2 = false)
    (H : ∀ b : Nat → Int32, YL b (laK pc L W R bs b_state b_to ns (N + 1)) → post (nI pc, g_start, g_sets, nI ns, g_conflicts, g_ready, g_length, g_tokens, g_stuck, g_scanned, g_value, g_place, b_term, b_size, b_skipped, b_left, b_right, b_width, b_op, b_constant, b_rank, b_grouping, b_bTerm, b_bSize, b_bSkipped, b_bLeft, b_bWidth, b_bOp, b_bConstant, b_follow, b_ends, b_first, b_last, b_none, b_set, b_leads, b_apart, b_state, b_to, b, b_begins, b_nullable, b_act, b_built, b_leadTo, b_text, b_fits, b_token, b_stack, b_worth)) :
    ∀ d c (b : Nat → Int32), c + d = 1476 → (∀ k, k < c → b k = 0) → wY_carry_2 post (nI pc) g_start g_sets (nI ns) g_conflicts g_ready g_length g_tokens g_stuck g_scanned g_value g_place (d + 1) (nI c) b_term b_size b_skipped b_left b_right b_width b_op b_constant b_rank b_grouping b_bTerm b_bSize b_bSkipped b_bLeft b_bWidth b_bOp b_bConstant b_follow b_ends b_first b_last b_none b_set b_leads b_apart b_state b_to b b_begins b_nullable b_act b_built b_leadTo b_text b_fits b_token b_stack b_worth := by
  intro d
  induction d with
  | zero =>
    intro c b hc h
    have : c = 1476 := by omega
    subst this
    refine pk_le 1476 1476 (fun _ => nm_e ⟨N + 1 + 1, yk_33 hH hY hB h1 h2 H (N + 1) 0 _ true (by omega) (fun s i hs hi => ?_) ⟨fun _ => by omega, fun _ => rfl⟩⟩) (fun z => absurd z (by omega))
    unfold laK
    by_cases e : s = 0 ∧ i = 32
    · rw [if_pos e]; obtain ⟨rfl, rfl⟩ := e; exact pk_us
    · rw [if_neg e, pk_un (by omega)]; exact h _ (by omega)
  | succ d ih =>
    intro c b hc h
    refine pk_le 1476 c (fun z => absurd z (by omega)) (fun _ => ⟨vp_in_nI (by omega) (by omega), ?_⟩)
    rw [nI_clamp (show c < 2 ^ 31 by omega)]
    refine nm_e (nm_r (nI_1 c) (ih (c + 1) _ (by omega) (fun k hk => ?_)))
    by_cases e : k = c
    · subst e; exact pk_us
    · rw [pk_un e]; exact h k (by omega)
theorem y_look {post : SY → Prop} {N : Nat} (hH : laH pc ns L W R bs b_state b_to) (hY : gr_Y b_left b_right b_width L W R) (hB : YR b_begins b_nullable bs) (h1 : ∀ k, k < N → (allL pc L W R bs b_state b_to ns (laK pc L W R bs b_state b_to ns k, false)).2 = true) (h2 : (allL pc L W R bs b_state b_to ns (laK pc L W R bs b_state b_to ns N, false)).2 = false)
    (H : ∀ b : Nat → Int32, YL b (laK pc L W R bs b_state b_to ns (N + 1)) → post (nI pc, g_start, g_sets, nI ns, g_conflicts, g_ready, g_length, g_tokens, g_stuck, g_scanned, g_value, g_place, b_term, b_size, b_skipped, b_left, b_right, b_width, b_op, b_constant, b_rank, b_grouping, b_bTerm, b_bSize, b_bSkipped, b_bLeft, b_bWidth, b_bOp, b_bConstant, b_follow, b_ends, b_first, b_last, b_none, b_set, b_leads, b_apart, b_state, b_to, b, b_begins, b_nullable, b_act, b_built, b_leadTo, b_text, b_fits, b_token, b_stack, b_worth)) : wpY_carry post (nI pc, g_start, g_sets, nI ns, g_conflicts, g_ready, g_length, g_tokens, g_stuck, g_scanned, g_value, g_place, b_term, b_size, b_skipped, b_left, b_right, b_width, b_op, b_constant, b_rank, b_grouping, b_bTerm, b_bSize, b_bSkipped, b_bLeft, b_bWidth, b_bOp, b_bConstant, b_follow, b_ends, b_first, b_last, b_none, b_set, b_leads, b_apart, b_state, b_to, b_look, b_begins, b_nullable, b_act, b_built, b_leadTo, b_text, b_fits, b_token, b_stack, b_worth) :=
  ⟨1477, yk_2 hH hY hB h1 h2 H 1476 0 b_look (by omega) (fun k hk => absurd hk (Nat.not_lt_zero _))⟩
end
