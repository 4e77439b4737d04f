/-! actions: the reference -/
section
variable {g_productions : Int32} {g_start : Int64} {g_sets g_states g_conflicts g_ready g_length g_tokens g_stuck g_scanned g_value g_place : Int32} {b_term b_size b_skipped b_left b_right b_width b_op b_constant b_rank b_grouping b_bTerm b_bSize b_bSkipped b_bLeft b_bWidth b_bOp b_bConstant : Nat → Int32} {b_follow b_ends b_first b_last : Nat → Int64} {b_none : Nat → Int32} {b_set : Nat → Int64} {b_leads b_apart : Nat → Int32} {b_state : Nat → Int64} {b_to b_look b_begins b_nullable b_act b_built b_leadTo b_text b_fits b_token b_stack b_worth : Nat → Int32} {pc ns : Nat} {L W : Nat → Nat} {R : Nat → Nat → Nat} {la : Nat → Nat → Int32}
theorem yrk_4 {post : Int32 → Prop} {p : Nat} (hp : p < 9) (hV : gr_V pc L W R) (hY : gr_Y b_left b_right b_width L W R) (H : post (rkF b_rank R p (W p))) : ∀ d k, k + d = W p → wY_rankOf_4 post (nI p) g_productions g_start g_sets g_states g_conflicts g_ready g_length g_tokens g_stuck g_scanned g_value g_place b_term b_size b_skipped b_left b_right b_width b_op b_constant b_rank b_grouping b_bTerm b_bSize b_bSkipped b_bLeft b_bWidth b_bOp b_bConstant b_follow b_ends b_first b_last b_none b_set b_leads b_apart b_state b_to b_look b_begins b_nullable b_act b_built b_leadTo b_text b_fits b_token b_stack b_worth (d + 1) (rkF b_rank R p k) (nI k) := by
  have hw := (hV.2.1 p).2.1
  obtain ⟨g1, g2, g3⟩ := hY p hp
  have cp : (nI p).toNatClampNeg = p := nI_clamp (by omega)
  have ip : vp_in (nI p) 9 := vp_in_nI hp (by omega)
  intro d
  induction d with
  | zero =>
    intro k hk
    refine ⟨ip, ?_⟩
    rw [cp, g2]
    have e : k = W p := by omega
    rw [e]
    exact pk_le (W p) (W p) (fun _ => H) (fun z => absurd z (by omega))
  | succ d ih =>
    intro k hk
    have ih' := ih (k + 1) (by omega)
    rw [rkF] at ih'
    refine ⟨ip, ?_⟩
    rw [cp, g2]
    refine pk_le (W p) k (fun z => absurd z (by omega)) (fun _ => ?_)
    rw [show 3 * nI p + nI k = nI (3 * p + k) from by rw [show (3 : Int32) = nI 3 from rfl, pk_mul, nI_add], nI_clamp (by omega), g3 k (by omega)]
    have i27 : vp_in (nI (3 * p + k)) 27 := vp_in_nI (by omega) (by omega)
    have hsy := (hV.2.1 p).2.2 k (by omega)
    have hx13 : R p k < 13 := by rcases hsy with z | z <;> omega
    refine ⟨i27, pk_le 4 (R p k) (fun c => ?_) (fun c => ⟨i27, vp_in_nI c (by omega), ?_⟩)⟩
    · rw [if_neg (by omega)] at ih'
      exact nm_r (nI_1 k) ih'
    · rw [if_pos c] at ih'
      rw [nI_clamp (show R p k < 2 ^ 31 by omega)]
      exact nm_e (nm_r (nI_1 k) ih')
theorem yrk {post : Int32 → Prop} {p : Nat} (hp : p < 9) (hV : gr_V pc L W R) (hY : gr_Y b_left b_right b_width L W R) (H : post (rkF b_rank R p (W p))) : wpY_rankOf post (g_productions, g_start, g_sets, g_states, g_conflicts, g_ready, g_length, g_tokens, g_stuck, g_scanned, g_value, g_place, b_term, b_size, b_skipped, b_left, b_right, b_width, b_op, b_constant, b_rank, b_grouping, b_bTerm, b_bSize, b_bSkipped, b_bLeft, b_bWidth, b_bOp, b_bConstant, b_follow, b_ends, b_first, b_last, b_none, b_set, b_leads, b_apart, b_state, b_to, b_look, b_begins, b_nullable, b_act, b_built, b_leadTo, b_text, b_fits, b_token, b_stack, b_worth) (nI p) := ⟨W p + 1, yrk_4 hp hV hY H (W p) 0 (by omega)⟩
theorem yde {post : Int32 → SY → Prop} {s t c0 : Nat} (hs : s < ns) (hns : ns ≤ 40) (ht : t < 5) (hV : gr_V pc L W R) (hY : gr_Y b_left b_right b_width L W R) (hl : YL b_look la) (hE : ∀ s p, s < ns → pc ≤ p → p < 8 → bl (b_state s) (4 * p + W p) = false) (hMq : ∀ t, t < 4 → b_to (7 * s + t) = -1 ∨ ∃ q, q < 40 ∧ b_to (7 * s + t) = nI q)
    (H : post (actO W R b_state b_to la b_rank b_grouping s t).2.1 (nI pc, g_start, g_sets, g_states, nI (c0 + (actO W R b_state b_to la b_rank b_grouping s t).2.2), g_ready, g_length, g_tokens, g_stuck, g_scanned, g_value, g_place, b_term, b_size, b_skipped, b_left, b_right, b_width, b_op, b_constant, b_rank, b_grouping, b_bTerm, b_bSize, b_bSkipped, b_bLeft, b_bWidth, b_bOp, b_bConstant, b_follow, b_ends, b_first, b_last, b_none, b_set, b_leads, b_apart, b_state, b_to, b_look, b_begins, b_nullable, b_act, b_built, b_leadTo, b_text, b_fits, b_token, b_stack, b_worth)) : wpY_decide post (nI pc, g_start, g_sets, g_states, nI c0, g_ready, g_length, g_tokens, g_stuck, g_scanned, g_value, g_place, b_term, b_size, b_skipped, b_left, b_right, b_width, b_op, b_constant, b_rank, b_grouping, b_bTerm, b_bSize, b_bSkipped, b_bLeft, b_bWidth, b_bOp, b_bConstant, b_follow, b_ends, b_first, b_last, b_none, b_set, b_leads, b_apart, b_state, b_to, b_look, b_begins, b_nullable, b_act, b_built, b_leadTo, b_text, b_fits, b_token, b_stack, b_worth) (nI s) (nI t) := by
  have hpc := hV.1
  obtain ⟨f1, f2, f3, f4, f5⟩ := fo_e (crB W b_state la s t)
  have fin : ∀ z0 : Int32, (onF b_to s t = none ∧ z0 = -1) ∨ (∃ q, q < 40 ∧ onF b_to s t = some q ∧ z0 = nI q ∧ t < 4) →
      wY_decide_121 post (nI t) (cI (xfo (crB W b_state la s t) 9).1) z0 (nI pc) g_start g_sets g_states (nI (c0 + ((xfo (crB W b_state la s t) 9).2 - 1))) g_ready g_length g_tokens g_stuck g_scanned g_value g_place b_term b_size b_skipped b_left b_right b_width b_op b_constant b_rank b_grouping b_bTerm b_bSize b_bSkipped b_bLeft b_bWidth b_bOp b_bConstant b_follow b_ends b_first b_last b_none b_set b_leads b_apart b_state b_to b_look b_begins b_nullable b_act b_built b_leadTo b_text b_fits b_token b_stack b_worth := by
    intro z0 hz
    unfold actO at H
    generalize (xfo (crB W b_state la s t) 9).1 = ch at *
    generalize (xfo (crB W b_state la s t) 9).2 = n at *
    rcases hz with ⟨hon, rfl⟩ | ⟨q, hq, hon, rfl, ht4⟩
    · rw [hon] at H
      unfold actF at H
      dsimp only at H
      by_cases c9 : ch = 9
      · rw [if_pos c9] at H
        have : cI ch = -1 := by unfold cI; rw [if_pos c9]
        rw [this]
        exact br_f (by decide) (br_f (by decide) H)
      · rw [if_neg c9] at H
        have hch : ch < 9 := by rcases f5 with z | z <;> omega
        have : cI ch = nI ch := by unfold cI; rw [if_neg c9]
        rw [this]
        refine br_t (nI_pos' (by omega)) (br_f (by decide) (pk_eq ch 8 (fun e => ?_) (fun e => ?_)))
        · rw [if_pos e] at H; exact H
        · rw [if_neg e] at H
          rw [show 100 + nI ch = nI (100 + ch) from nI_add 100 ch]; exact H
    · rw [hon] at H
      unfold actF at H
      dsimp only at H
      have it : vp_in (nI t) 4 := vp_in_nI ht4 (by omega)
      have e2q : 2 + nI q = nI (2 + q) := nI_add 2 q
      by_cases n0 : n = 0
      · rw [if_pos n0] at H
        have c9 := f3.mp n0
        have : cI ch = -1 := by unfold cI; rw [if_pos c9]
        rw [this]
        refine br_f (by decide) (br_t (nI_pos' (by omega)) ?_)
        rw [e2q, n0]; exact H
      · rw [if_neg n0] at H
        have c9 : ch ≠ 9 := fun z => n0 (f3.mpr z)
        have hch : ch < 9 := by rcases f5 with z | z <;> omega
        have : cI ch = nI ch := by unfold cI; rw [if_neg c9]
        rw [this]
        refine br_t (nI_pos' (by omega)) (br_t (nI_pos' (by omega)) (yrk hch hV hY ?_))
        rw [nI_clamp (show t < 2 ^ 31 by omega), e2q, show 100 + nI ch = nI (100 + ch) from nI_add 100 ch]
        have w182 : rkF b_rank R ch (W ch) = 0 ∨ b_rank t = 0 → wY_decide_182 post (nI q) (nI pc) g_start g_sets g_states (nI (c0 + (n - 1))) g_ready g_length g_tokens g_stuck g_scanned g_value g_place b_term b_size b_skipped b_left b_right b_width b_op b_constant b_rank b_grouping b_bTerm b_bSize b_bSkipped b_bLeft b_bWidth b_bOp b_bConstant b_follow b_ends b_first b_last b_none b_set b_leads b_apart b_state b_to b_look b_begins b_nullable b_act b_built b_leadTo b_text b_fits b_token b_stack b_worth := by
          intro r0
          rw [if_pos r0] at H
          unfold wY_decide_182
          rw [e2q]
          refine nm_r (e' := nI (c0 + n)) (by rw [nI_1]; congr 1; omega) H
        refine br_c (fun r => w182 (Or.inl r)) (fun r => ⟨it, br_c (fun r2 => w182 (Or.inr r2)) (fun r2 => ⟨it, ?_⟩)⟩)
        rw [if_neg (fun z => z.elim r r2)] at H
        refine br_c (fun e => ⟨it, br_c (fun g => ?_) (fun g => ⟨it, br_c (fun g2 => ?_) (fun g2 => ?_)⟩)⟩) (fun e => ⟨it, br_c (fun g => ?_) (fun g => ?_)⟩)
        · rw [if_pos e, if_pos g] at H; exact H
        · rw [if_pos e, if_neg g, if_pos g2] at H; exact H
        · rw [if_pos e, if_neg g, if_neg g2] at H; exact H
        · rw [if_neg e, if_pos g] at H; exact H
        · rw [if_neg e, if_neg g] at H; exact H
  have loop : ∀ d k, k + d = 9 → (yfo (crB W b_state la s t) k).1 ≤ 9 → wY_decide_6 post (nI s) (nI t) (nI pc) g_start g_sets g_states g_ready g_length g_tokens g_stuck g_scanned g_value g_place b_term b_size b_skipped b_left b_right b_width b_op b_constant b_rank b_grouping b_bTerm b_bSize b_bSkipped b_bLeft b_bWidth b_bOp b_bConstant b_follow b_ends b_first b_last b_none b_set b_leads b_apart b_state b_to b_look b_begins b_nullable b_act b_built b_leadTo b_text b_fits b_token b_stack b_worth (d + 1) (cI (yfo (crB W b_state la s t) k).1) (nI (9 - k) + (-1)) (nI (c0 + (yfo (crB W b_state la s t) k).2)) := by
    intro d
    induction d with
    | zero =>
      intro k hk h9
      have : k = 9 := by omega
      subst this
      rw [f1, f2]
      refine br_t (by decide) (pk_le 4 t (fun c => fin _ (Or.inl ⟨?_, rfl⟩)) (fun c => ?_))
      · unfold onF; rw [if_neg (fun z => by omega)]
      · rw [show 7 * nI s + nI t = nI (7 * s + t) from by rw [show (7 : Int32) = nI 7 from rfl, pk_mul, nI_add], nI_clamp (by omega)]
        refine ⟨vp_in_nI (by omega) (by omega), fin _ ?_⟩
        rcases hMq t c with e | ⟨q, hq, e⟩
        · exact Or.inl ⟨by unfold onF; rw [if_neg (fun z => z.2 e)], e⟩
        · refine Or.inr ⟨q, hq, ?_, e, c⟩
          unfold onF; rw [e, if_pos ⟨c, zn_ne1 (by omega)⟩, nI_clamp (by omega)]
    | succ d ih =>
      intro k hk h9
      have ih' := ih (k + 1) (by omega)
      rw [yfo] at ih'
      have e8 : 9 - k = (8 - k) + 1 := by omega
      rw [e8, pk_m1]
      rw [show 9 - (k + 1) = 8 - k by omega] at ih'
      generalize yfo (crB W b_state la s t) k = z at ih' h9
      generalize hp : 8 - k = p at ih'
      have hp9 : p < 9 := by omega
      obtain ⟨g1, g2, g3⟩ := hY p hp9
      have hw := (hV.2.1 p).2.1
      have hi : 4 * p + W p < 34 := by
        by_cases e : p = 8
        · rw [e, hV.2.2.2.2.1]; omega
        · omega
      refine br_f (nI_pos (by omega)) ⟨vp_in_nI hp9 (by omega), ?_⟩
      rw [nI_clamp (show p < 2 ^ 31 by omega), g2, show 4 * nI p + nI (W p) = nI (4 * p + W p) from by rw [show (4 : Int32) = nI 4 from rfl, pk_mul, nI_add]]
      refine nm_e ?_
      unfold stY at ih'
      have no : crB W b_state la s t p = false → ∀ {x : Int32}, x = nI p + (-1) → wY_decide_6 post (nI s) (nI t) (nI pc) g_start g_sets g_states g_ready g_length g_tokens g_stuck g_scanned g_value g_place b_term b_size b_skipped b_left b_right b_width b_op b_constant b_rank b_grouping b_bTerm b_bSize b_bSkipped b_bLeft b_bWidth b_bOp b_bConstant b_follow b_ends b_first b_last b_none b_set b_leads b_apart b_state b_to b_look b_begins b_nullable b_act b_built b_leadTo b_text b_fits b_token b_stack b_worth (d + 1) (cI z.1) x (nI (c0 + z.2)) := by
        intro hc x hx
        rw [hc, if_neg (show ¬ (false = true) by decide)] at ih'
        rw [hx]
        exact ih' h9
      have is : vp_in (nI s) 41 := vp_in_nI (by omega) (by omega)
      rw [show 36 * nI s + nI (4 * p + W p) = nI (36 * s + (4 * p + W p)) from by rw [show (36 : Int32) = nI 36 from rfl, pk_mul, nI_add], nI_clamp (show 36 * s + (4 * p + W p) < 2 ^ 31 by omega)]
      refine pk_lt p pc (fun _ => br_f (by decide) ?_) (fun c => pk_eq p 8 (fun _ => br_f (by decide) ?_) (fun n8 => br_t rfl (fun x hx => no (by unfold crB; rw [hE s p hs c (by omega)]; rfl) hx)))
      all_goals
        refine ⟨is, ?_⟩
        rw [nI_clamp (show s < 2 ^ 31 by omega)]
        refine zb_b0 (4 * p + W p) (fun hb => fun x hx => no (by unfold crB; rw [hb]; rfl) hx) (fun hb => ⟨vp_in_nI (by omega) (by omega), ?_⟩)
        rw [hl s _ (by omega) hi]
        refine zc_b0 t (fun hc => fun x hx => no (by unfold crB; rw [hb, hc]; rfl) hx) (fun hc => ?_)
        have hC : crB W b_state la s t p = true := by unfold crB; rw [hb, hc]; rfl
        rw [hC, if_pos rfl] at ih'
        dsimp only at ih'
        have ih2 := ih' (by split <;> omega)
        have ecp : cI p = nI p := by unfold cI; rw [if_neg (by omega)]
        by_cases z9 : z.1 = 9
        · have ez : cI z.1 = -1 := by unfold cI; rw [if_pos z9]
          rw [ez]
          rw [if_neg (show ¬ z.1 = 8 by omega), if_pos z9, Nat.add_zero, ecp] at ih2
          exact br_t (by decide) (br_f (by decide) (nm_e ih2))
        · have ez : cI z.1 = nI z.1 := by unfold cI; rw [if_neg z9]
          rw [ez]
          rw [if_neg z9, ← Nat.add_assoc] at ih2
          refine br_f (nI_pos (by omega)) (nm_r (nI_1 (c0 + z.2)) (pk_eq z.1 8 (fun e => nm_e ?_) (fun e => nm_e ?_)))
          · rw [if_pos e] at ih2
            rw [e]; exact ih2
          · rw [if_neg e, ecp] at ih2; exact ih2
  exact ⟨10, loop 9 0 (by omega) (Nat.le_refl _)⟩
theorem ybu_54 {post : Int32 → SY → Prop} (hns : ns ≤ 40) (hV : gr_V pc L W R) (hY : gr_Y b_left b_right b_width L W R) (hl : YL b_look la) (hE : ∀ s p, s < ns → pc ≤ p → p < 8 → bl (b_state s) (4 * p + W p) = false) (hMq : ∀ s t, s < ns → t < 4 → b_to (7 * s + t) = -1 ∨ ∃ q, q < 40 ∧ b_to (7 * s + t) = nI q)
    (H : ∀ ac : Nat → Int32, (∀ k, k < 5 * ns → ac k = (actO W R b_state b_to la b_rank b_grouping (k / 5) (k % 5)).2.1) → ∃ n88 : Nat, wY_build_88 post (nI pc) g_start g_sets (nI ns) (nI (cfT (fun s t => (actO W R b_state b_to la b_rank b_grouping s t).2.2) (5 * ns))) g_ready g_length g_tokens g_stuck g_scanned g_value g_place n88 0 b_term b_size b_skipped b_left b_right b_width b_op b_constant b_rank b_grouping b_bTerm b_bSize b_bSkipped b_bLeft b_bWidth b_bOp b_bConstant b_follow b_ends b_first b_last b_none b_set b_leads b_apart b_state b_to b_look b_begins b_nullable ac b_built b_leadTo b_text b_fits b_token b_stack b_worth) :
    ∀ d k (ac : Nat → Int32), k + d = 5 * ns → (∀ j, j < k → ac j = (actO W R b_state b_to la b_rank b_grouping (j / 5) (j % 5)).2.1) → wY_build_54 post (d + 1) (nI k) (nI pc) g_start g_sets (nI ns) (nI (cfT (fun s t => (actO W R b_state b_to la b_rank b_grouping s t).2.2) k)) g_ready g_length g_tokens g_stuck g_scanned g_value g_place b_term b_size b_skipped b_left b_right b_width b_op b_constant b_rank b_grouping b_bTerm b_bSize b_bSkipped b_bLeft b_bWidth b_bOp b_bConstant b_follow b_ends b_first b_last b_none b_set b_leads b_apart b_state b_to b_look b_begins b_nullable ac b_built b_leadTo b_text b_fits b_token b_stack b_worth := by
  have e5 : 5 * nI ns = nI (5 * ns) := by rw [show (5 : Int32) = nI 5 from rfl, pk_mul]
  intro d
  induction d with
  | zero =>
    intro k ac hk h
    have : k = 5 * ns := by omega
    subst this
    exact pk_le (5 * ns) (5 * ns) (fun _ => H ac h) (fun z => absurd z (by omega)) e5
  | succ d ih =>
    intro k ac hk h
    refine pk_le (5 * ns) k (fun z => absurd z (by omega)) (fun _ => ?_) e5
    rw [show (5 : Int32) = nI 5 from rfl, pk_rem (by omega) (by omega) (by omega), pk_div (by omega) (by omega) (by omega)]
    refine ⟨by decide, by decide, yde (b_act := ac) (g_states := nI ns) (show k / 5 < ns by omega) hns (by omega) hV hY hl hE (fun t ht => hMq (k / 5) t (by omega) ht) ?_⟩
    dsimp only
    rw [nI_clamp (show k < 2 ^ 31 by omega)]
    refine ⟨vp_in_nI (by omega) (by omega), nm_e (nm_r (nI_1 k) (ih (k + 1) _ (by omega) (fun j hj => ?_)))⟩
    by_cases e : j = k
    · subst e; rw [pk_us]
    · rw [pk_un e]; exact h j (by omega)
end
