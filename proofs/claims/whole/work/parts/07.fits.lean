/-! the reference's table of parts that fit -/
def ft (f : Nat → Int32) (e i j : Nat) : Prop := ¬ f (441 * e + 21 * i + j) = 0
def bv (P : Prop) (x : Int32) : Prop := (P ∧ x = 1) ∨ (¬ P ∧ x = 0)
theorem bv_n {P : Prop} {x : Int32} (h : bv P x) : vp_nar .boolean x = x := by
  rcases h with ⟨-, rfl⟩ | ⟨-, rfl⟩ <;> rfl
theorem bv_i {P : Prop} {x : Int32} (h : bv P x) : ¬ x = 0 ↔ P := by
  rcases h with ⟨p, rfl⟩ | ⟨p, rfl⟩
  · exact ⟨fun _ => p, fun _ => by decide⟩
  · exact ⟨fun z => absurd rfl z, fun z => absurd z p⟩
theorem bv_c {P Q : Prop} {x : Int32} (e : P ↔ Q) (h : bv P x) : bv Q x := by
  rcases h with ⟨p, rfl⟩ | ⟨p, rfl⟩
  · exact Or.inl ⟨e.mp p, rfl⟩
  · exact Or.inr ⟨fun q => p (e.mpr q), rfl⟩
theorem yx (e i j : Nat) : 441 * nI e + 21 * nI i + nI j = nI (441 * e + 21 * i + j) := by
  rw [show (441 : Int32) = nI 441 from rfl, show (21 : Int32) = nI 21 from rfl, pk_mul, pk_mul, nI_add, nI_add]
/-- what a term makes of one cell -/
def cv (tl : Nat → Nat) (f : Nat → Int32) (t e i j : Nat) : Prop :=
  if t < 5 then j = i + 1 ∧ (t = 4 ∨ tl i = t)
  else if t = 5 then ∃ m, i ≤ m ∧ m ≤ j ∧ ft f e i m ∧ ft f (e + 1) m j
  else if t = 6 then ft f e i j ∨ ft f (e + 1) i j
  else if t = 9 then i = j ∨ ft f e i j
  else ∃ m, i + 1 ≤ m ∧ m ≤ j ∧ ft f e i m ∧ (m = j ∨ ft f 7 m j)
section
variable {g_productions : Int32} {g_start : Int64} {g_sets g_states g_conflicts g_ready g_length g_tokens g_stuck g_scanned g_value g_place : Int32} {b_term b_size b_skipped b_left b_right b_width b_op b_constant b_rank b_grouping b_bTerm b_bSize b_bSkipped b_bLeft b_bWidth b_bOp b_bConstant : Nat → Int32} {b_follow b_ends b_first b_last : Nat → Int64} {b_none : Nat → Int32} {b_set : Nat → Int64} {b_leads b_apart : Nat → Int32} {b_state : Nat → Int64} {b_to b_look b_begins b_nullable b_act b_built b_leadTo b_text b_fits b_token b_stack b_worth : Nat → Int32} {post : Int32 → Prop}
theorem yp_ {e i j : Nat} (h : post (nI (441 * e + 21 * i + j))) : wpY_part post (g_productions, g_start, g_sets, g_states, g_conflicts, g_ready, g_length, g_tokens, g_stuck, g_scanned, g_value, g_place, b_term, b_size, b_skipped, b_left, b_right, b_width, b_op, b_constant, b_rank, b_grouping, b_bTerm, b_bSize, b_bSkipped, b_bLeft, b_bWidth, b_bOp, b_bConstant, b_follow, b_ends, b_first, b_last, b_none, b_set, b_leads, b_apart, b_state, b_to, b_look, b_begins, b_nullable, b_act, b_built, b_leadTo, b_text, b_fits, b_token, b_stack, b_worth) (nI e) (nI i) (nI j) := by
  show post _
  rw [yx]; exact h
theorem ya_5 {e i j : Nat} (he : e < 8) (hi : i ≤ 20) (hj : j ≤ 20) : ∀ d m, m + d = j + 1 →
    ((∃ q, m ≤ q ∧ q ≤ j ∧ ft b_fits e i q ∧ (q = j ∨ ft b_fits 7 q j)) → post 1) → ((¬ ∃ q, m ≤ q ∧ q ≤ j ∧ ft b_fits e i q ∧ (q = j ∨ ft b_fits 7 q j)) → post 0) →
    wY_again_5 post (nI e) (nI i) (nI j) g_productions g_start g_sets g_states g_conflicts g_ready g_length g_tokens g_stuck g_scanned g_value g_place b_term b_size b_skipped b_left b_right b_width b_op b_constant b_rank b_grouping b_bTerm b_bSize b_bSkipped b_bLeft b_bWidth b_bOp b_bConstant b_follow b_ends b_first b_last b_none b_set b_leads b_apart b_state b_to b_look b_begins b_nullable b_act b_built b_leadTo b_text b_fits b_token b_stack b_worth (d + 1) (nI m) := by
  intro d
  induction d with
  | zero =>
    intro m hm h1 h0
    exact pk_lt j m (fun _ => h0 fun ⟨q, a, b, _⟩ => by omega) (fun z => absurd z (by omega))
  | succ d ih =>
    intro m hm h1 h0
    refine pk_lt j m (fun z => absurd z (by omega)) (fun _ => yp_ ⟨vp_in_nI (by omega) (by omega), ?_⟩)
    rw [nI_clamp (by omega)]
    have nx : ¬ (ft b_fits e i m ∧ (m = j ∨ ft b_fits 7 m j)) → wY_again_5 post (nI e) (nI i) (nI j) g_productions g_start g_sets g_states g_conflicts g_ready g_length g_tokens g_stuck g_scanned g_value g_place b_term b_size b_skipped b_left b_right b_width b_op b_constant b_rank b_grouping b_bTerm b_bSize b_bSkipped b_bLeft b_bWidth b_bOp b_bConstant b_follow b_ends b_first b_last b_none b_set b_leads b_apart b_state b_to b_look b_begins b_nullable b_act b_built b_leadTo b_text b_fits b_token b_stack b_worth (d + 1) (nI (m + 1)) := by
      intro hno
      refine ih (m + 1) (by omega) (fun ⟨q, a, b, c⟩ => h1 ⟨q, by omega, b, c⟩) (fun z => h0 fun ⟨q, a, b, c⟩ => z ⟨q, ?_, b, c⟩)
      rcases Nat.lt_or_ge m q with y | y
      · exact y
      · have : q = m := by omega
        subst this; exact absurd c hno
    by_cases a : b_fits (441 * e + 21 * i + m) = 0
    · exact br_t a (nm_r (nI_1 m) (nx fun z => z.1 a))
    · refine br_f a (pk_eq m j (fun e1 => h1 ⟨m, by omega, by omega, a, Or.inl e1⟩) (fun e1 => ?_))
      refine yp_ (e := 7) ⟨vp_in_nI (by omega) (by omega), ?_⟩
      rw [nI_clamp (by omega)]
      by_cases b : b_fits (441 * 7 + 21 * m + j) = 0
      · exact br_t b (nm_r (nI_1 m) (nx fun z => z.2.elim e1 (fun y => y b)))
      · exact br_f b (h1 ⟨m, by omega, by omega, a, Or.inr b⟩)
theorem ya_ {e i j : Nat} (he : e < 8) (hi : i ≤ 20) (hj : j ≤ 20) (hij : i ≤ j)
    (h : ∀ x, bv (∃ q, i + 1 ≤ q ∧ q ≤ j ∧ ft b_fits e i q ∧ (q = j ∨ ft b_fits 7 q j)) x → post x) : wpY_again post (g_productions, g_start, g_sets, g_states, g_conflicts, g_ready, g_length, g_tokens, g_stuck, g_scanned, g_value, g_place, b_term, b_size, b_skipped, b_left, b_right, b_width, b_op, b_constant, b_rank, b_grouping, b_bTerm, b_bSize, b_bSkipped, b_bLeft, b_bWidth, b_bOp, b_bConstant, b_follow, b_ends, b_first, b_last, b_none, b_set, b_leads, b_apart, b_state, b_to, b_look, b_begins, b_nullable, b_act, b_built, b_leadTo, b_text, b_fits, b_token, b_stack, b_worth) (nI e) (nI i) (nI j) :=
  nm_r (nI_1 i) ⟨j - i + 1, ya_5 he hi hj (j - i) (i + 1) (by omega) (fun z => h 1 (Or.inl ⟨z, rfl⟩)) (fun z => h 0 (Or.inr ⟨z, rfl⟩))⟩
theorem yo_3 {e i j : Nat} (he : e < 7) (hi : i ≤ 20) (hj : j ≤ 20) : ∀ d m, m + d = j + 1 →
    ((∃ q, m ≤ q ∧ q ≤ j ∧ ft b_fits e i q ∧ ft b_fits (e + 1) q j) → post 1) → ((¬ ∃ q, m ≤ q ∧ q ≤ j ∧ ft b_fits e i q ∧ ft b_fits (e + 1) q j) → post 0) →
    wY_both_3 post (nI e) (nI i) (nI j) g_productions g_start g_sets g_states g_conflicts g_ready g_length g_tokens g_stuck g_scanned g_value g_place b_term b_size b_skipped b_left b_right b_width b_op b_constant b_rank b_grouping b_bTerm b_bSize b_bSkipped b_bLeft b_bWidth b_bOp b_bConstant b_follow b_ends b_first b_last b_none b_set b_leads b_apart b_state b_to b_look b_begins b_nullable b_act b_built b_leadTo b_text b_fits b_token b_stack b_worth (d + 1) (nI m) := by
  intro d
  induction d with
  | zero =>
    intro m hm h1 h0
    exact pk_lt j m (fun _ => h0 fun ⟨q, a, b, _⟩ => by omega) (fun z => absurd z (by omega))
  | succ d ih =>
    intro m hm h1 h0
    refine pk_lt j m (fun z => absurd z (by omega)) (fun _ => yp_ ⟨vp_in_nI (by omega) (by omega), ?_⟩)
    rw [nI_clamp (by omega)]
    have nx : ¬ (ft b_fits e i m ∧ ft b_fits (e + 1) m j) → wY_both_3 post (nI e) (nI i) (nI j) g_productions g_start g_sets g_states g_conflicts g_ready g_length g_tokens g_stuck g_scanned g_value g_place b_term b_size b_skipped b_left b_right b_width b_op b_constant b_rank b_grouping b_bTerm b_bSize b_bSkipped b_bLeft b_bWidth b_bOp b_bConstant b_follow b_ends b_first b_last b_none b_set b_leads b_apart b_state b_to b_look b_begins b_nullable b_act b_built b_leadTo b_text b_fits b_token b_stack b_worth (d + 1) (nI (m + 1)) := by
      intro hno
      refine ih (m + 1) (by omega) (fun ⟨q, a, b, c⟩ => h1 ⟨q, by omega, b, c⟩) (fun z => h0 fun ⟨q, a, b, c⟩ => z ⟨q, ?_, b, c⟩)
      rcases Nat.lt_or_ge m q with y | y
      · exact y
      · have : q = m := by omega
        subst this; exact absurd c hno
    by_cases a : b_fits (441 * e + 21 * i + m) = 0
    · exact br_t a (nm_r (nI_1 m) (nx fun z => z.1 a))
    · refine br_f a ?_
      rw [nI_1 e]
      refine yp_ ⟨vp_in_nI (by omega) (by omega), ?_⟩
      rw [nI_clamp (by omega)]
      by_cases b : b_fits (441 * (e + 1) + 21 * m + j) = 0
      · exact br_t b (nm_r (nI_1 m) (nx fun z => z.2 b))
      · exact br_f b (h1 ⟨m, by omega, by omega, a, b⟩)
theorem yo_ {e i j : Nat} (he : e < 7) (hi : i ≤ 20) (hj : j ≤ 20) (hij : i ≤ j)
    (h : ∀ x, bv (∃ q, i ≤ q ∧ q ≤ j ∧ ft b_fits e i q ∧ ft b_fits (e + 1) q j) x → post x) : wpY_both post (g_productions, g_start, g_sets, g_states, g_conflicts, g_ready, g_length, g_tokens, g_stuck, g_scanned, g_value, g_place, b_term, b_size, b_skipped, b_left, b_right, b_width, b_op, b_constant, b_rank, b_grouping, b_bTerm, b_bSize, b_bSkipped, b_bLeft, b_bWidth, b_bOp, b_bConstant, b_follow, b_ends, b_first, b_last, b_none, b_set, b_leads, b_apart, b_state, b_to, b_look, b_begins, b_nullable, b_act, b_built, b_leadTo, b_text, b_fits, b_token, b_stack, b_worth) (nI e) (nI i) (nI j) :=
  ⟨j + 1 - i + 1, yo_3 he hi hj (j + 1 - i) i (by omega) (fun z => h 1 (Or.inl ⟨z, rfl⟩)) (fun z => h 0 (Or.inr ⟨z, rfl⟩))⟩
end
section
variable {g_productions : Int32} {g_start : Int64} {g_sets g_states g_conflicts g_ready g_length g_tokens g_stuck g_scanned g_value g_place : Int32} {b_term b_size b_skipped b_left b_right b_width b_op b_constant b_rank b_grouping b_bTerm b_bSize b_bSkipped b_bLeft b_bWidth b_bOp b_bConstant : Nat → Int32} {b_follow b_ends b_first b_last : Nat → Int64} {b_none : Nat → Int32} {b_set : Nat → Int64} {b_leads b_apart : Nat → Int32} {b_state : Nat → Int64} {b_to b_look b_begins b_nullable b_act b_built b_leadTo b_text b_fits b_token b_stack b_worth : Nat → Int32} {post : SY → Prop}
/-- the copy behind a THEN -/
theorem yk_235 {e i n : Nat} {f0 : Nat → Int32} (he : e < 7) (hi : i ≤ n) (hn : n ≤ 20) (V : Nat → Prop) (hV : ∀ j, i ≤ j → j ≤ n → bv (V j) (f0 (441 * 7 + 21 * i + j)))
    (H : ∀ f : Nat → Int32, (∀ c, (∀ j, i ≤ j → j ≤ n → c ≠ 441 * e + 21 * i + j) → f c = f0 c) → (∀ j, i ≤ j → j ≤ n → bv (V j) (f (441 * e + 21 * i + j))) → post (g_productions, g_start, g_sets, g_states, g_conflicts, g_ready, nI n, g_tokens, g_stuck, g_scanned, g_value, g_place, b_term, b_size, b_skipped, b_left, b_right, b_width, b_op, b_constant, b_rank, b_grouping, b_bTerm, b_bSize, b_bSkipped, b_bLeft, b_bWidth, b_bOp, b_bConstant, b_follow, b_ends, b_first, b_last, b_none, b_set, b_leads, b_apart, b_state, b_to, b_look, b_begins, b_nullable, b_act, b_built, b_leadTo, b_text, f, b_token, b_stack, b_worth)) :
    ∀ d j f, j + d = n + 1 → i ≤ j → (∀ c, (∀ q, i ≤ q → q < j → c ≠ 441 * e + 21 * i + q) → f c = f0 c) → (∀ q, i ≤ q → q < j → bv (V q) (f (441 * e + 21 * i + q))) →
    wY_carryOut_235 post (nI e) (nI i) g_productions g_start g_sets g_states g_conflicts g_ready (nI n) g_tokens g_stuck g_scanned g_value g_place (d + 1) (nI j) b_term b_size b_skipped b_left b_right b_width b_op b_constant b_rank b_grouping b_bTerm b_bSize b_bSkipped b_bLeft b_bWidth b_bOp b_bConstant b_follow b_ends b_first b_last b_none b_set b_leads b_apart b_state b_to b_look b_begins b_nullable b_act b_built b_leadTo b_text f b_token b_stack b_worth := by
  intro d
  induction d with
  | zero =>
    intro j f hj hij h1 h2
    refine pk_lt n j (fun _ => H f (fun c hc => h1 c fun q a b => hc q a (by omega)) (fun q a b => h2 q a (by omega))) (fun z => absurd z (by omega))
  | succ d ih =>
    intro j f hj hij h1 h2
    refine pk_lt n j (fun z => absurd z (by omega)) (fun _ => yp_ (yp_ (e := 7) ⟨vp_in_nI (by omega) (by omega), vp_in_nI (by omega) (by omega), ?_⟩))
    rw [nI_clamp (by omega), nI_clamp (by omega)]
    have e7 : f (441 * 7 + 21 * i + j) = f0 (441 * 7 + 21 * i + j) := h1 _ (fun q a b => by omega)
    have hb := hV j hij (by omega)
    refine nm_r (e' := upd f (441 * e + 21 * i + j) (f0 (441 * 7 + 21 * i + j))) (by rw [e7, bv_n hb]) (nm_r (nI_1 j) (ih (j + 1) _ (by omega) (by omega) ?_ ?_))
    · intro c hc
      rw [pk_un (hc j hij (by omega))]
      exact h1 c fun q a b => hc q a (by omega)
    · intro q a b
      by_cases eq : q = j
      · subst eq; rw [pk_us]; exact hb
      · rw [pk_un (by omega)]; exact h2 q a (by omega)
/-- what carryOut leaves -/
def cs (tl : Nat → Nat) (t e i n : Nat) (f f' : Nat → Int32) : Prop :=
  (∀ c, (∀ j, i ≤ j → j ≤ n → c ≠ 441 * (if t = 7 ∨ t = 8 then 7 else e) + 21 * i + j) → (t = 5 → ∀ j, i ≤ j → j ≤ n → c ≠ 441 * 7 + 21 * i + j) → f' c = f c) ∧
  ∀ j, i ≤ j → j ≤ n → (¬ f' (441 * (if t = 7 ∨ t = 8 then 7 else e) + 21 * i + j) = 0 ↔ cv tl f t e i j)
theorem cv_c {tl : Nat → Nat} {f f0 : Nat → Int32} {t e i j n l : Nat} (ht : t < 10) (hl : l = if t = 5 ∨ t = 7 ∨ t = 8 then 7 else e) (he : e < 6) (hn : n ≤ 20) (hij : i ≤ j) (hj : j ≤ n)
    (h : ∀ c, (∀ q, i ≤ q → q < j → c ≠ 441 * l + 21 * i + q) → f c = f0 c) : cv tl f t e i j ↔ cv tl f0 t e i j := by
  have g : ∀ k p q, k ≤ 7 → p ≤ 20 → q ≤ 20 → (k ≠ l ∨ p ≠ i ∨ j ≤ q) → (ft f k p q ↔ ft f0 k p q) := by
    intro k p q hk hp hq hne
    unfold ft
    rw [h _ (fun r a b => by omega)]
  unfold cv
  by_cases c0 : t < 5
  · rw [if_pos c0, if_pos c0]
  rw [if_neg c0, if_neg c0]
  by_cases c5 : t = 5
  · rw [if_pos c5, if_pos c5]
    rw [if_pos (Or.inl c5)] at hl
    refine ⟨fun ⟨m, a, b, c, d⟩ => ⟨m, a, b, ?_, ?_⟩, fun ⟨m, a, b, c, d⟩ => ⟨m, a, b, ?_, ?_⟩⟩
    · exact (g _ _ _ (by omega) (by omega) (by omega) (by omega)).mp c
    · exact (g _ _ _ (by omega) (by omega) (by omega) (by omega)).mp d
    · exact (g _ _ _ (by omega) (by omega) (by omega) (by omega)).mpr c
    · exact (g _ _ _ (by omega) (by omega) (by omega) (by omega)).mpr d
  rw [if_neg c5, if_neg c5]
  by_cases c6 : t = 6
  · rw [if_pos c6, if_pos c6, g _ _ _ (by omega) (by omega) (by omega) (by omega), g _ _ _ (by omega) (by omega) (by omega) (by omega)]
  rw [if_neg c6, if_neg c6]
  by_cases c9 : t = 9
  · rw [if_pos c9, if_pos c9, g _ _ _ (by omega) (by omega) (by omega) (by omega)]
  rw [if_neg c9, if_neg c9]
  rw [if_pos (by omega)] at hl
  refine ⟨fun ⟨m, a, b, c, d⟩ => ⟨m, a, b, ?_, ?_⟩, fun ⟨m, a, b, c, d⟩ => ⟨m, a, b, ?_, ?_⟩⟩
  · exact (g _ _ _ (by omega) (by omega) (by omega) (by omega)).mp c
  · exact d.imp id (g _ _ _ (by omega) (by omega) (by omega) (by omega)).mp
  · exact (g _ _ _ (by omega) (by omega) (by omega) (by omega)).mpr c
  · exact d.imp id (g _ _ _ (by omega) (by omega) (by omega) (by omega)).mpr
theorem yc_3 {t e i n l : Nat} {f0 : Nat → Int32} (ht : t < 10) (hl : l = if t = 5 ∨ t = 7 ∨ t = 8 then 7 else e) (he : e < 6) (hi : i ≤ n) (hn : n ≤ 20) (htx : ∀ k, ∃ l, l < 4 ∧ b_text k = nI l)
    (H : ∀ f : Nat → Int32, (∀ c, (∀ j, i ≤ j → j ≤ n → c ≠ 441 * l + 21 * i + j) → f c = f0 c) → (∀ j, i ≤ j → j ≤ n → bv (cv (nv b_text) f0 t e i j) (f (441 * l + 21 * i + j))) →
      ((nI t = 5 → (∃ n235 : Nat, wY_carryOut_235 post (nI e) (nI i) g_productions g_start g_sets g_states g_conflicts g_ready (nI n) g_tokens g_stuck g_scanned g_value g_place n235 (nI i) b_term b_size b_skipped b_left b_right b_width b_op b_constant b_rank b_grouping b_bTerm b_bSize b_bSkipped b_bLeft b_bWidth b_bOp b_bConstant b_follow b_ends b_first b_last b_none b_set b_leads b_apart b_state b_to b_look b_begins b_nullable b_act b_built b_leadTo b_text f b_token b_stack b_worth)) ∧ (¬ nI t = 5 → post (g_productions, g_start, g_sets, g_states, g_conflicts, g_ready, nI n, g_tokens, g_stuck, g_scanned, g_value, g_place, b_term, b_size, b_skipped, b_left, b_right, b_width, b_op, b_constant, b_rank, b_grouping, b_bTerm, b_bSize, b_bSkipped, b_bLeft, b_bWidth, b_bOp, b_bConstant, b_follow, b_ends, b_first, b_last, b_none, b_set, b_leads, b_apart, b_state, b_to, b_look, b_begins, b_nullable, b_act, b_built, b_leadTo, b_text, f, b_token, b_stack, b_worth)))) :
    ∀ d j f, j + d = n + 1 → i ≤ j → (∀ c, (∀ q, i ≤ q → q < j → c ≠ 441 * l + 21 * i + q) → f c = f0 c) → (∀ q, i ≤ q → q < j → bv (cv (nv b_text) f0 t e i q) (f (441 * l + 21 * i + q))) →
    wY_carryOut_3 post (nI t) (nI e) (nI i) g_productions g_start g_sets g_states g_conflicts g_ready (nI n) g_tokens g_stuck g_scanned g_value g_place (d + 1) (nI j) b_term b_size b_skipped b_left b_right b_width b_op b_constant b_rank b_grouping b_bTerm b_bSize b_bSkipped b_bLeft b_bWidth b_bOp b_bConstant b_follow b_ends b_first b_last b_none b_set b_leads b_apart b_state b_to b_look b_begins b_nullable b_act b_built b_leadTo b_text f b_token b_stack b_worth := by
  intro d
  induction d with
  | zero =>
    intro j f hj hij h1 h2
    exact pk_lt n j (fun _ => H f (fun c hc => h1 c fun q a b => hc q a (by omega)) (fun q a b => h2 q a (by omega))) (fun z => absurd z (by omega))
  | succ d ih =>
    intro j f hj hij h1 h2
    have hc := cv_c (tl := nv b_text) (n := n) ht hl he hn hij (by omega) h1
    have step : ∀ z, bv (cv (nv b_text) f t e i j) z → wY_carryOut_3 post (nI t) (nI e) (nI i) g_productions g_start g_sets g_states g_conflicts g_ready (nI n) g_tokens g_stuck g_scanned g_value g_place (d + 1) (nI (j + 1)) b_term b_size b_skipped b_left b_right b_width b_op b_constant b_rank b_grouping b_bTerm b_bSize b_bSkipped b_bLeft b_bWidth b_bOp b_bConstant b_follow b_ends b_first b_last b_none b_set b_leads b_apart b_state b_to b_look b_begins b_nullable b_act b_built b_leadTo b_text (upd f (441 * l + 21 * i + j) z) b_token b_stack b_worth := by
      intro z hz
      refine ih (j + 1) _ (by omega) (by omega) ?_ ?_
      · intro c hc
        rw [pk_un (hc j hij (by omega))]
        exact h1 c fun q a b => hc q a (by omega)
      · intro q a b
        by_cases eq : q = j
        · subst eq; rw [pk_us]; exact bv_c hc hz
        · rw [pk_un (by omega)]; exact h2 q a (by omega)
    have fin : ∀ z, bv (cv (nv b_text) f t e i j) z → t ≠ 7 → t ≠ 8 → wY_carryOut_180 post (wY_carryOut_3 post (nI t) (nI e) (nI i) g_productions g_start g_sets g_states g_conflicts g_ready (nI n) g_tokens g_stuck g_scanned g_value g_place (d + 1)) (nI t) (nI e) (nI i) (nI j) z g_productions g_start g_sets g_states g_conflicts g_ready (nI n) g_tokens g_stuck g_scanned g_value g_place b_term b_size b_skipped b_left b_right b_width b_op b_constant b_rank b_grouping b_bTerm b_bSize b_bSkipped b_bLeft b_bWidth b_bOp b_bConstant b_follow b_ends b_first b_last b_none b_set b_leads b_apart b_state b_to b_look b_begins b_nullable b_act b_built b_leadTo b_text f b_token b_stack b_worth := by
      intro z hz h7 h8
      refine pk_eq t 5 (fun c5 => ?_) (fun c5 => ?_)
      · rw [if_pos (Or.inl c5)] at hl
        subst hl
        refine yp_ (e := 7) ⟨vp_in_nI (by omega) (by omega), ?_⟩
        rw [nI_clamp (by omega)]
        exact nm_r (by rw [bv_n hz]) (nm_r (nI_1 j) (step z hz))
      · rw [if_neg (by omega)] at hl
        subst hl
        refine yp_ ⟨vp_in_nI (by omega) (by omega), ?_⟩
        rw [nI_clamp (by omega)]
        exact nm_r (by rw [bv_n hz]) (nm_r (nI_1 j) (step z hz))
    have rep : t = 7 ∨ t = 8 → wY_carryOut_24 post (wY_carryOut_3 post (nI t) (nI e) (nI i) g_productions g_start g_sets g_states g_conflicts g_ready (nI n) g_tokens g_stuck g_scanned g_value g_place (d + 1)) (nI t) (nI e) (nI i) (nI j) g_productions g_start g_sets g_states g_conflicts g_ready (nI n) g_tokens g_stuck g_scanned g_value g_place b_term b_size b_skipped b_left b_right b_width b_op b_constant b_rank b_grouping b_bTerm b_bSize b_bSkipped b_bLeft b_bWidth b_bOp b_bConstant b_follow b_ends b_first b_last b_none b_set b_leads b_apart b_state b_to b_look b_begins b_nullable b_act b_built b_leadTo b_text f b_token b_stack b_worth := by
      intro c78
      rw [if_pos (Or.inr c78)] at hl
      subst hl
      refine ya_ (by omega) (by omega) (by omega) hij (fun x hx => yp_ (e := 7) ⟨vp_in_nI (by omega) (by omega), ?_⟩)
      rw [nI_clamp (by omega)]
      refine nm_r (by rw [bv_n hx]) (nm_r (nI_1 j) (step x (bv_c ?_ hx)))
      unfold cv
      rw [if_neg (by omega), if_neg (by omega), if_neg (by omega), if_neg (by omega)]
    refine pk_lt n j (fun z => absurd z (by omega)) (fun _ => pk_eq t 7 (fun c7 => rep (Or.inl c7)) (fun c7 => pk_eq t 8 (fun c8 => rep (Or.inr c8)) (fun c8 => ?_)))
    refine pk_le 5 t (fun c5 => pk_eq t 5 (fun e5 => ?_) (fun n5 => pk_eq t 6 (fun e6 => ?_) (fun n6 => ?_))) (fun c5 => ?_)
    · refine yo_ (by omega) (by omega) (by omega) hij (fun x hx => fin x (bv_c ?_ hx) c7 c8)
      unfold cv
      rw [if_neg (by omega), if_pos e5]
    · have e0 : cv (nv b_text) f t e i j ↔ (ft f e i j ∨ ft f (e + 1) i j) := by
        unfold cv; rw [if_neg (by omega), if_neg (by omega), if_pos e6]
      refine yp_ ⟨vp_in_nI (by omega) (by omega), ?_⟩
      rw [nI_clamp (by omega)]
      by_cases a : f (441 * e + 21 * i + j) = 0
      · refine br_t a ?_
        rw [nI_1 e]
        refine yp_ ⟨vp_in_nI (by omega) (by omega), ?_⟩
        rw [nI_clamp (by omega)]
        by_cases b : f (441 * (e + 1) + 21 * i + j) = 0
        · exact br_t b (fin 0 (Or.inr ⟨fun z => (e0.mp z).elim (fun y => y a) (fun y => y b), rfl⟩) c7 c8)
        · exact br_f b (fin 1 (Or.inl ⟨e0.mpr (Or.inr b), rfl⟩) c7 c8)
      · exact br_f a (fin 1 (Or.inl ⟨e0.mpr (Or.inl a), rfl⟩) c7 c8)
    · have e0 : cv (nv b_text) f t e i j ↔ (i = j ∨ ft f e i j) := by
        unfold cv; rw [if_neg (by omega), if_neg (by omega), if_neg (by omega), if_pos (by omega)]
      refine pk_eq i j (fun e1 => fin 1 (Or.inl ⟨e0.mpr (Or.inl e1), rfl⟩) c7 c8) (fun n1 => ?_)
      refine yp_ ⟨vp_in_nI (by omega) (by omega), ?_⟩
      rw [nI_clamp (by omega)]
      by_cases a : f (441 * e + 21 * i + j) = 0
      · exact br_t a (fin 0 (Or.inr ⟨fun z => (e0.mp z).elim n1 (fun y => y a), rfl⟩) c7 c8)
      · exact br_f a (fin 1 (Or.inl ⟨e0.mpr (Or.inr a), rfl⟩) c7 c8)
    · have e0 : cv (nv b_text) f t e i j ↔ (j = i + 1 ∧ (t = 4 ∨ nv b_text i = t)) := by
        unfold cv; rw [if_pos c5]
      rw [nI_1 i]
      refine pk_eq j (i + 1) (fun e1 => pk_eq t 4 (fun e4 => fin 1 (Or.inl ⟨e0.mpr ⟨e1, Or.inl e4⟩, rfl⟩) c7 c8) (fun n4 => ⟨vp_in_nI (by omega) (by omega), ?_⟩)) (fun n1 => fin 0 (Or.inr ⟨fun z => n1 (e0.mp z).1, rfl⟩) c7 c8)
      obtain ⟨q, hq, eq⟩ := htx i
      have etl : nv b_text i = q := by unfold nv; rw [eq]; exact nI_clamp (by omega)
      rw [nI_clamp (show i < 2 ^ 31 by omega), eq]
      refine pk_eq q t (fun e2 => fin 1 (Or.inl ⟨e0.mpr ⟨e1, Or.inr (by omega)⟩, rfl⟩) c7 c8) (fun n2 => fin 0 (Or.inr ⟨fun z => (e0.mp z).2.elim n4 (fun y => n2 (by omega)), rfl⟩) c7 c8)
theorem yc_ {t e i n : Nat} (ht : t < 10) (he : e < 6) (hi : i ≤ n) (hn : n ≤ 20) (htx : ∀ k, ∃ l, l < 4 ∧ b_text k = nI l)
    (H : ∀ f : Nat → Int32, cs (nv b_text) t e i n b_fits f → post (g_productions, g_start, g_sets, g_states, g_conflicts, g_ready, nI n, g_tokens, g_stuck, g_scanned, g_value, g_place, b_term, b_size, b_skipped, b_left, b_right, b_width, b_op, b_constant, b_rank, b_grouping, b_bTerm, b_bSize, b_bSkipped, b_bLeft, b_bWidth, b_bOp, b_bConstant, b_follow, b_ends, b_first, b_last, b_none, b_set, b_leads, b_apart, b_state, b_to, b_look, b_begins, b_nullable, b_act, b_built, b_leadTo, b_text, f, b_token, b_stack, b_worth)) : wpY_carryOut post (g_productions, g_start, g_sets, g_states, g_conflicts, g_ready, nI n, g_tokens, g_stuck, g_scanned, g_value, g_place, b_term, b_size, b_skipped, b_left, b_right, b_width, b_op, b_constant, b_rank, b_grouping, b_bTerm, b_bSize, b_bSkipped, b_bLeft, b_bWidth, b_bOp, b_bConstant, b_follow, b_ends, b_first, b_last, b_none, b_set, b_leads, b_apart, b_state, b_to, b_look, b_begins, b_nullable, b_act, b_built, b_leadTo, b_text, b_fits, b_token, b_stack, b_worth) (nI t) (nI e) (nI i) := by
  refine ⟨n + 1 - i + 1, yc_3 (f0 := b_fits) (l := if t = 5 ∨ t = 7 ∨ t = 8 then 7 else e) ht rfl he hi hn htx (fun f h1 h2 => ?_) (n + 1 - i) i b_fits (by omega) (by omega) (fun c _ => rfl) (fun q a b => absurd b (by omega))⟩
  refine pk_eq t 5 (fun c5 => ?_) (fun n5 => ?_)
  · rw [if_pos (Or.inl c5)] at h1 h2
    refine ⟨n + 1 - i + 1, yk_235 (f0 := f) (by omega) hi hn (fun j => cv (nv b_text) b_fits t e i j) h2 (fun f' g1 g2 => H f' ⟨fun c k1 k2 => ?_, fun j a b => ?_⟩) (n + 1 - i) i f (by omega) (by omega) (fun c _ => rfl) (fun q a b => absurd b (by omega))⟩
    · rw [if_neg (by omega)] at k1
      rw [g1 c k1]; exact h1 c (k2 c5)
    · rw [if_neg (by omega)]; exact bv_i (g2 j a b)
  · have e1 : (if t = 5 ∨ t = 7 ∨ t = 8 then 7 else e) = (if t = 7 ∨ t = 8 then 7 else e) := by
      by_cases c : t = 7 ∨ t = 8
      · rw [if_pos c, if_pos (Or.inr c)]
      · rw [if_neg c, if_neg (by omega)]
    rw [e1] at h1 h2
    exact H f ⟨fun c k1 _ => h1 c k1, fun j a b => bv_i (h2 j a b)⟩
end
