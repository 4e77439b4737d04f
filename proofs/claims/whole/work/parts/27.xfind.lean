/-! the component's listing of sets against the reference's -/
def rcF (fo : Nat → Int32) (x : Int64) : Nat → Int32
  | 0 => 0
  | p + 1 => if bl x p then rcF fo x p ||| fo p else rcF fo x p
def rbF (pl : Nat → Int32) (l : Nat) : Nat → Int32
  | 0 => 0
  | p + 1 => if pl p = nI l ∨ pl p = 4 then rbF pl l p ||| ((1 : Int32) <<< (nI p &&& 31)) else rbF pl l p
theorem rc_b {fo : Nat → Int32} {x : Int64} {i : Nat} : ∀ n, bt (rcF fo x n) i = true ↔ ∃ p, p < n ∧ bl x p = true ∧ bt (fo p) i = true
  | 0 => ⟨fun h => by unfold rcF at h; rw [b_0] at h; exact absurd h (by decide), fun ⟨p, h, _⟩ => absurd h (Nat.not_lt_zero _)⟩
  | n + 1 => by
    unfold rcF
    by_cases c : bl x n = true
    · rw [if_pos c, b_or, Bool.or_eq_true, rc_b n]
      constructor
      · rintro (⟨p, a, b⟩ | a)
        · exact ⟨p, by omega, b⟩
        · exact ⟨n, by omega, c, a⟩
      · rintro ⟨p, a, b, d⟩
        by_cases e : p = n
        · subst e; exact Or.inr d
        · exact Or.inl ⟨p, by omega, b, d⟩
    · rw [if_neg c, rc_b n]
      constructor
      · rintro ⟨p, a, b⟩; exact ⟨p, by omega, b⟩
      · rintro ⟨p, a, b, d⟩
        by_cases e : p = n
        · subst e; exact absurd b c
        · exact ⟨p, by omega, b, d⟩
theorem rb_b {pl : Nat → Int32} {l i : Nat} : ∀ n, n ≤ 32 → (bt (rbF pl l n) i = true ↔ i < n ∧ (pl i = nI l ∨ pl i = 4))
  | 0, _ => ⟨fun h => by unfold rbF at h; rw [b_0] at h; exact absurd h (by decide), fun ⟨h, _⟩ => absurd h (Nat.not_lt_zero _)⟩
  | n + 1, hn => by
    unfold rbF
    by_cases c : pl n = nI l ∨ pl n = 4
    · rw [if_pos c, b_or, Bool.or_eq_true, rb_b n (by omega), zc_one (by omega), decide_eq_true_eq]
      constructor
      · rintro (⟨a, b⟩ | a)
        · exact ⟨by omega, b⟩
        · subst a; exact ⟨by omega, c⟩
      · rintro ⟨a, b⟩
        by_cases e : i = n
        · exact Or.inr e
        · exact Or.inl ⟨by omega, b⟩
    · rw [if_neg c, rb_b n (by omega)]
      constructor
      · rintro ⟨a, b⟩; exact ⟨by omega, b⟩
      · rintro ⟨a, b⟩
        by_cases e : i = n
        · subst e; exact absurd b c
        · exact ⟨by omega, b⟩
def trX (fo pl : Nat → Int32) (x : Int64) (l : Nat) : Int64 := (rcF fo x 17 &&& rbF pl l 16).toInt64
theorem trX_b {fo pl : Nat → Int32} {x : Int64} {l i : Nat} : bl (trX fo pl x l) i = true ↔ i < 16 ∧ (pl i = nI l ∨ pl i = 4) ∧ ∃ p, p < 17 ∧ bl x p = true ∧ bt (fo p) i = true := by
  unfold trX
  have h31 : bt (rcF fo x 17 &&& rbF pl l 16) 31 = false := by
    rw [b_and]
    have : bt (rbF pl l 16) 31 = false := by
      cases h : bt (rbF pl l 16) 31 with
      | false => rfl
      | true => have := ((rb_b 16 (by omega)).mp h).1; omega
    rw [this, Bool.and_false]
  by_cases c : i < 32
  · rw [zc_long _ c, b_and, Bool.and_eq_true, rc_b, rb_b 16 (by omega)]
    exact ⟨fun ⟨a, b, d⟩ => ⟨b, d, a⟩, fun ⟨b, d, a⟩ => ⟨a, b, d⟩⟩
  · rw [zc_longH _ (by omega) h31]
    exact ⟨fun h => absurd h (by decide), fun h => by omega⟩
/-- a set of places, as the component and as the reference have it -/
def rpS (tm sz : Nat → Nat) (v w : Int64) : Prop := (∀ q, lcB tm sz q = true → bl v (lcn tm sz q) = bl w q) ∧ (∀ p, lcn tm sz 32 ≤ p → bl v p = false) ∧ ∀ q, lcB tm sz q = false → bl w q = false
theorem rpS_0 (tm sz : Nat → Nat) : rpS tm sz 0 0 := ⟨fun q _ => by rw [zb_0, zb_0], fun p _ => zb_0 p, fun q _ => zb_0 q⟩
theorem rpS_i {tm sz : Nat → Nat} {v w v' w' : Int64} (h : rpS tm sz v w) (h' : rpS tm sz v' w') : v = v' ↔ w = w' := by
  constructor
  · intro e
    apply zb_ext
    intro q _
    by_cases c : lcB tm sz q = true
    · rw [← h.1 q c, ← h'.1 q c, e]
    · rw [h.2.2 q (by simpa using c), h'.2.2 q (by simpa using c)]
  · intro e
    apply zb_ext
    intro p _
    by_cases c : p < lcn tm sz 32
    · obtain ⟨q, _, hq, rfl⟩ := lcn_on 32 p c
      rw [h.1 q hq, h'.1 q hq, e]
    · rw [h.2.1 p (by omega), h'.2.1 p (by omega)]
theorem gG_sup {tm sz : Nat → Nat} (h8 : ∀ r, sz r ≤ 8) : ∀ R, R ≤ 4 → ∀ p q, gG tm sz R p q = true → lcB tm sz p = true ∧ lcB tm sz q = true
  | 0, _, p, q, h => absurd h (show ¬ (false = true) by decide)
  | R + 1, hR, p, q, h => by
    have := h8 R
    rcases (gl_sup (tm := tm) (b := 8 * R) (G0 := gG tm sz R) (sz R)).2.2 p q h with z | ⟨⟨a, b, c⟩, d, e, f⟩
    · exact gG_sup h8 R (by omega) p q z
    · refine ⟨lc_i.mpr ⟨by omega, ?_, c⟩, lc_i.mpr ⟨by omega, ?_, f⟩⟩
      · rw [show p / 8 = R by omega]; omega
      · rw [show q / 8 = R by omega]; omega
theorem FR_sup {tm sz : Nat → Nat} (h8 : ∀ r, sz r ≤ 8) {r q : Nat} (hr : r < 4) (h : FR tm sz r q = true) : lcB tm sz q = true := by
  have := h8 r
  unfold FR at h
  rw [Bool.and_eq_true] at h
  obtain ⟨a, b, c⟩ := (gl_sup (tm := tm) (b := 8 * r) (G0 := gG tm sz r) (sz r)).1 0 q h.2
  refine lc_i.mpr ⟨by omega, ?_, c⟩
  rw [show q / 8 = r by omega]; omega
theorem TR_sup {tm sz : Nat → Nat} (h8 : ∀ r, sz r ≤ 8) {r q : Nat} (hr : r < 4) (h : TR tm sz r q = true) : lcB tm sz q = true := by
  have := h8 r
  unfold TR at h
  rw [Bool.and_eq_true] at h
  obtain ⟨a, b, c⟩ := (gl_sup (tm := tm) (b := 8 * r) (G0 := gG tm sz r) (sz r)).2.1 0 q h.2
  refine lc_i.mpr ⟨by omega, ?_, c⟩
  rw [show q / 8 = r by omega]; omega
theorem sta_sup {tm sz : Nat → Nat} (h8 : ∀ r, sz r ≤ 8) : ∀ R, R ≤ 4 → ∀ q, sta tm sz R q = true → lcB tm sz q = true
  | 0, _, q, h => absurd h (show ¬ (false = true) by decide)
  | R + 1, hR, q, h => by
    have h' : (sta tm sz R q || FR tm sz R q) = true := h
    rw [Bool.or_eq_true] at h'
    exact h'.elim (sta_sup h8 R (by omega) q) (FR_sup h8 (by omega))
/-- a step leads to the same set on both sides -/
theorem tr_rp {tm sz : Nat → Nat} {pl foX re : Nat → Int32} {start : Int64} {ends foY : Nat → Int64} (hw : rwf tm sz) (hx : xLaid tm sz 4 pl foX re) (hy : yLaid tm sz 4 start ends foY) {s l : Nat} (hl : l < 4) {x y : Int64} (h0 : s = 0 → x = 65536) (h1 : s ≠ 0 → rpS tm sz x y) :
    rpS tm sz (trX foX pl x l) (trY foY tm start s y l) := by
  obtain ⟨x1, x2, x3, x4⟩ := hx
  obtain ⟨y1, y2, y3⟩ := hy
  have u16 : lcn tm sz 32 ≤ 16 := lcn_4 hw 4 (by omega)
  have hb16 : ∀ p, bl 65536 p = true ↔ p = 16 := by
    intro p
    by_cases c : p < 64
    · have : ∀ p, p < 64 → (bl 65536 p = true ↔ p = 16) := by decide +kernel
      exact this p c
    · rw [zb_big (by omega)]; exact ⟨fun h => absurd h (by decide), fun h => by omega⟩
  -- what is reached, on both sides
  have reach : ∀ q, lcB tm sz q = true → ((∃ p, p < 17 ∧ bl x p = true ∧ bt (foX p) (lcn tm sz q) = true) ↔ bl (if s = 0 then start else afF foY y 32) q = true) := by
    intro q hq
    by_cases c : s = 0
    · rw [if_pos c, h0 c, y1 q]
      constructor
      · rintro ⟨p, a, b, d⟩
        rw [hb16] at b; subst b
        rw [x2.1 q hq] at d; exact d
      · intro d
        exact ⟨16, by omega, (hb16 16).mpr rfl, by rw [x2.1 q hq]; exact d⟩
    · rw [if_neg c, af_b]
      obtain ⟨r1, r2, r3⟩ := h1 c
      constructor
      · rintro ⟨p, a, b, d⟩
        have hp : p < lcn tm sz 32 := by
          rcases Nat.lt_or_ge p (lcn tm sz 32) with z | z
          · exact z
          · rw [r2 p z] at b; exact absurd b (by decide)
        obtain ⟨q0, hq0, hl0, rfl⟩ := lcn_on 32 p hp
        refine ⟨q0, hq0, by rw [← r1 q0 hl0]; exact b, ?_⟩
        rw [y3 q0 hq0 q, ← (x1 q0 hl0).1 q hq]; exact d
      · rintro ⟨q0, a, b, d⟩
        have hl0 : lcB tm sz q0 = true := by
          cases h : lcB tm sz q0 with
          | true => rfl
          | false => rw [r3 q0 h] at b; exact absurd b (by decide)
        have := lc_16 hw hl0
        refine ⟨lcn tm sz q0, by omega, by rw [r1 q0 hl0]; exact b, ?_⟩
        rw [(x1 q0 hl0).1 q hq, ← y3 q0 a q]; exact d
  have hrd : ∀ q, lcB tm sz q = true → ((pl (lcn tm sz q) = nI l ∨ pl (lcn tm sz q) = 4) ↔ (tm q = 4 ∨ tm q = l)) := by
    intro q hq
    have h10 := hw.1 q
    rw [x4 q (lc_i.mp hq).1 hq, nI_eq (by omega) (by omega), show (4 : Int32) = nI 4 from rfl, nI_eq (by omega) (by omega)]
    exact or_comm
  refine ⟨fun q hq => ?_, fun p hp => ?_, fun q hq => ?_⟩
  · have h16 := lc_16 hw hq
    rw [Bool.eq_iff_iff, trX_b]
    unfold trY
    rw [rd_b 32 (by omega), ← reach q hq, hrd q hq]
    have := (lc_i.mp hq).1
    exact ⟨fun ⟨a, b, c⟩ => ⟨this, c, b⟩, fun ⟨a, b, c⟩ => ⟨by omega, c, b⟩⟩
  · cases h : bl (trX foX pl x l) p with
    | false => rfl
    | true =>
      obtain ⟨a, b, p', c, d, e⟩ := trX_b.mp h
      exfalso
      by_cases z : p' = 16
      · subst z; rw [x2.2 p hp] at e; exact absurd e (by decide)
      · by_cases y0 : s = 0
        · rw [h0 y0, hb16] at d; exact z d
        · obtain ⟨r1, r2, r3⟩ := h1 y0
          have hp' : p' < lcn tm sz 32 := by
            rcases Nat.lt_or_ge p' (lcn tm sz 32) with z | z
            · exact z
            · rw [r2 p' z] at d; exact absurd d (by decide)
          obtain ⟨q0, hq0, hl0, rfl⟩ := lcn_on 32 p' hp'
          rw [(x1 q0 hl0).2 p hp] at e; exact absurd e (by decide)
  · cases h : bl (trY foY tm start s y l) q with
    | false => rfl
    | true =>
      unfold trY at h
      obtain ⟨a, b, c⟩ := (rd_b 32 (by omega)).mp h
      exfalso
      have : lcB tm sz q = true := by
        by_cases z : s = 0
        · rw [if_pos z, y1 q] at b; exact sta_sup hw.2.1 4 (by omega) q b
        · rw [if_neg z, af_b] at b
          obtain ⟨p, b1, b2, b3⟩ := b
          rw [y3 p b1 q] at b3
          exact (gG_sup hw.2.1 4 (by omega) p q b3).2
      rw [this] at hq; exact absurd hq (by decide)
section
variable {f_productionCount f_textLength f_anythingBuilt f_tokenCount f_parseValue f_parsePlace : Int32} {a_ruleTerms a_ruleLengths a_skips a_grammar a_ranks a_groupings a_text a_heads a_tails a_empties a_placeLetters a_followers a_ruleEnds : Nat → Int32} {a_sets : Nat → Int64} {a_steps a_classes a_finerClasses : Nat → Int32} {a_states : Nat → Int64} {a_moves a_begins a_lookaheads a_builtCounts a_builtSteps a_builtMatches a_builtSkips a_builtGrammar a_builtMoves a_builtActions a_tokenRules a_tokenBegins a_tokenEnds a_stackStates a_stackValues : Nat → Int32}
theorem xb_48 {post : Int64 → Prop} {l : Nat} {x4 : Int32} (H : post ((x4 &&& rbF a_placeLetters l 16).toInt64)) : ∀ d p, p + d = 16 → wX_setBehind_48 post (nI l) x4 f_productionCount f_textLength f_anythingBuilt f_tokenCount f_parseValue f_parsePlace a_ruleTerms a_ruleLengths a_skips a_grammar a_ranks a_groupings a_text a_heads a_tails a_empties a_placeLetters a_followers a_ruleEnds a_sets a_steps a_classes a_finerClasses a_states a_moves a_begins a_lookaheads a_builtCounts a_builtSteps a_builtMatches a_builtSkips a_builtGrammar a_builtMoves a_builtActions a_tokenRules a_tokenBegins a_tokenEnds a_stackStates a_stackValues (d + 1) (rbF a_placeLetters l p) (nI p) := by
  intro d
  induction d with
  | zero =>
    intro p hp
    have : p = 16 := by omega
    subst this
    exact pk_le 16 16 (fun _ => H) (fun z => absurd z (by omega))
  | succ d ih =>
    intro p hp
    have ih' := ih (p + 1) (by omega)
    unfold rbF at ih'
    have ip : vp_in (nI p) 16 := vp_in_nI (by omega) (by omega)
    refine pk_le 16 p (fun z => absurd z (by omega)) (fun _ => ⟨ip, ?_⟩)
    rw [nI_clamp (show p < 2 ^ 31 by omega)]
    refine br_c (fun c => ?_) (fun c => ⟨ip, br_c (fun c2 => ?_) (fun c2 => nm_r (nI_1 p) ?_)⟩)
    · rw [if_pos (Or.inl c)] at ih'
      exact nm_e (nm_r (nI_1 p) ih')
    · rw [if_pos (Or.inr c2)] at ih'
      exact nm_e (nm_r (nI_1 p) ih')
    · rw [if_neg (fun z => z.elim c c2)] at ih'
      exact ih'
theorem xb_6 {post : Int64 → Prop} {l : Nat} {x : Int64} (H : post (trX a_followers a_placeLetters x l)) : ∀ d p, p + d = 17 → wX_setBehind_6 post x (nI l) f_productionCount f_textLength f_anythingBuilt f_tokenCount f_parseValue f_parsePlace a_ruleTerms a_ruleLengths a_skips a_grammar a_ranks a_groupings a_text a_heads a_tails a_empties a_placeLetters a_followers a_ruleEnds a_sets a_steps a_classes a_finerClasses a_states a_moves a_begins a_lookaheads a_builtCounts a_builtSteps a_builtMatches a_builtSkips a_builtGrammar a_builtMoves a_builtActions a_tokenRules a_tokenBegins a_tokenEnds a_stackStates a_stackValues (d + 1) (rcF a_followers x p) (nI p) := by
  intro d
  induction d with
  | zero =>
    intro p hp
    have : p = 17 := by omega
    subst this
    exact pk_le 17 17 (fun _ => ⟨17, xb_48 H 16 0 (by omega)⟩) (fun z => absurd z (by omega))
  | succ d ih =>
    intro p hp
    have ih' := ih (p + 1) (by omega)
    unfold rcF at ih'
    refine pk_le 17 p (fun z => absurd z (by omega)) (fun _ => zb_b0 p (fun hb => nm_r (nI_1 p) ?_) (fun hb => ⟨vp_in_nI (by omega) (by omega), ?_⟩))
    · rw [if_neg (by rw [hb]; decide)] at ih'; exact ih'
    · rw [nI_clamp (show p < 2 ^ 31 by omega)]
      rw [if_pos hb] at ih'
      exact nm_e (nm_r (nI_1 p) ih')
theorem xb_ {post : Int64 → Prop} {l : Nat} {x : Int64} (H : post (trX a_followers a_placeLetters x l)) : wpX_setBehind post (f_productionCount, f_textLength, f_anythingBuilt, f_tokenCount, f_parseValue, f_parsePlace, a_ruleTerms, a_ruleLengths, a_skips, a_grammar, a_ranks, a_groupings, a_text, a_heads, a_tails, a_empties, a_placeLetters, a_followers, a_ruleEnds, a_sets, a_steps, a_classes, a_finerClasses, a_states, a_moves, a_begins, a_lookaheads, a_builtCounts, a_builtSteps, a_builtMatches, a_builtSkips, a_builtGrammar, a_builtMoves, a_builtActions, a_tokenRules, a_tokenBegins, a_tokenEnds, a_stackStates, a_stackValues) x (nI l) := ⟨18, xb_6 H 17 0 (by omega)⟩
theorem xo_3 {post : Int32 → Prop} {v : Int64} {c : Nat} (hc : c ≤ 61) (H : post (nI (fnd a_sets v c))) : ∀ d k, k + d = c → (∀ j, j < k → a_sets j ≠ v) → wX_slotOf__sets_3 post v (nI c) f_productionCount f_textLength f_anythingBuilt f_tokenCount f_parseValue f_parsePlace a_ruleTerms a_ruleLengths a_skips a_grammar a_ranks a_groupings a_text a_heads a_tails a_empties a_placeLetters a_followers a_ruleEnds a_sets a_steps a_classes a_finerClasses a_states a_moves a_begins a_lookaheads a_builtCounts a_builtSteps a_builtMatches a_builtSkips a_builtGrammar a_builtMoves a_builtActions a_tokenRules a_tokenBegins a_tokenEnds a_stackStates a_stackValues (d + 1) (nI k) := by
  intro d
  induction d with
  | zero =>
    intro k hk h
    have : k = c := by omega
    subst this
    have e := fnd_u (Nat.le_refl k) h (fun z => absurd z (by omega))
    rw [e] at H
    exact pk_le 61 k (fun _ => H) (fun _ => pk_le k k (fun _ => H) (fun z => absurd z (by omega)))
  | succ d ih =>
    intro k hk h
    refine pk_le 61 k (fun z => absurd z (by omega)) (fun _ => pk_le c k (fun z => absurd z (by omega)) (fun _ => ⟨vp_in_nI (by omega) (by omega), ?_⟩))
    rw [nI_clamp (show k < 2 ^ 31 by omega)]
    by_cases e : a_sets k = v
    · rw [fnd_u (show k ≤ c by omega) h (fun _ => e)] at H
      exact br_t e H
    · refine br_f e (nm_r (nI_1 k) (ih (k + 1) (by omega) (fun j hj => ?_)))
      by_cases z : j = k
      · subst z; exact e
      · exact h j (by omega)
theorem xo_ {post : Int32 → Prop} {v : Int64} {c : Nat} (hc : c ≤ 61) (H : post (nI (fnd a_sets v c))) : wpX_slotOf__sets post (f_productionCount, f_textLength, f_anythingBuilt, f_tokenCount, f_parseValue, f_parsePlace, a_ruleTerms, a_ruleLengths, a_skips, a_grammar, a_ranks, a_groupings, a_text, a_heads, a_tails, a_empties, a_placeLetters, a_followers, a_ruleEnds, a_sets, a_steps, a_classes, a_finerClasses, a_states, a_moves, a_begins, a_lookaheads, a_builtCounts, a_builtSteps, a_builtMatches, a_builtSkips, a_builtGrammar, a_builtMoves, a_builtActions, a_tokenRules, a_tokenBegins, a_tokenEnds, a_stackStates, a_stackValues) v (nI c) := ⟨c + 1, xo_3 hc H c 0 (by omega) (fun j hj => absurd hj (Nat.not_lt_zero _))⟩
/-- the sets listed so far, on both sides -/
def SR (tm sz : Nat → Nat) (ix : Nat) (b : Nat × (Nat → Int64) × (Nat → Int32)) (sx : Nat → Int64) (mx : Nat → Int32) : Prop :=
  sx 0 = 65536 ∧ b.2.1 0 = 0 ∧ (∀ k, 1 ≤ k → k < b.1 → rpS tm sz (sx k) (b.2.1 k)) ∧ ∀ j, j < ix → mx j = b.2.2 j
theorem xro_26 {post : Int32 → SX → Prop} {J13 : Int32 → Int32 → (Nat → Int32) → (Nat → Int32) → (Nat → Int32) → (Nat → Int32) → (Nat → Int32) → (Nat → Int32) → (Nat → Int32) → (Nat → Int32) → (Nat → Int32) → (Nat → Int32) → (Nat → Int32) → (Nat → Int32) → (Nat → Int32) → (Nat → Int64) → (Nat → Int32) → (Nat → Int32) → (Nat → Int32) → (Nat → Int64) → (Nat → Int32) → (Nat → Int32) → (Nat → Int32) → (Nat → Int32) → (Nat → Int32) → (Nat → Int32) → (Nat → Int32) → (Nat → Int32) → (Nat → Int32) → (Nat → Int32) → (Nat → Int32) → (Nat → Int32) → (Nat → Int32) → (Nat → Int32) → (Nat → Int32) → Prop} {start : Int64} {ends foY : Nat → Int64} {tm sz : Nat → Nat} (hw : rwf tm sz) (hx : xLaid tm sz 4 a_placeLetters a_followers a_ruleEnds) (hy : yLaid tm sz 4 start ends foY) {s : Nat} {b0 : Nat × (Nat → Int64) × (Nat → Int32)} (hs61 : s < 61) (h61 : b0.1 ≤ 61) (hs : s < b0.1)
    (Hn : row 61 4 (trY foY tm start s (b0.2.1 s)) s b0 4 = none → ∀ (sx : Nat → Int64) (mx : Nat → Int32), post (-1) (f_productionCount, f_textLength, f_anythingBuilt, f_tokenCount, f_parseValue, f_parsePlace, a_ruleTerms, a_ruleLengths, a_skips, a_grammar, a_ranks, a_groupings, a_text, a_heads, a_tails, a_empties, a_placeLetters, a_followers, a_ruleEnds, sx, mx, a_classes, a_finerClasses, a_states, a_moves, a_begins, a_lookaheads, a_builtCounts, a_builtSteps, a_builtMatches, a_builtSkips, a_builtGrammar, a_builtMoves, a_builtActions, a_tokenRules, a_tokenBegins, a_tokenEnds, a_stackStates, a_stackValues))
    (Hs : ∀ b (sx : Nat → Int64) (mx : Nat → Int32), row 61 4 (trY foY tm start s (b0.2.1 s)) s b0 4 = some b → SR tm sz (4 * (s + 1)) b sx mx → J13 (nI b.1) (nI (s + 1)) a_ruleTerms a_ruleLengths a_skips a_grammar a_ranks a_groupings a_text a_heads a_tails a_empties a_placeLetters a_followers a_ruleEnds sx mx a_classes a_finerClasses a_states a_moves a_begins a_lookaheads a_builtCounts a_builtSteps a_builtMatches a_builtSkips a_builtGrammar a_builtMoves a_builtActions a_tokenRules a_tokenBegins a_tokenEnds a_stackStates a_stackValues) :
    ∀ d l b (sx : Nat → Int64) (mx : Nat → Int32), l + d = 4 → row 61 4 (trY foY tm start s (b0.2.1 s)) s b0 l = some b → b.1 ≤ 61 → s < b.1 → b.2.1 s = b0.2.1 s → SR tm sz (4 * s + l) b sx mx →
      wX_findSets_26 post J13 (nI s) f_productionCount f_textLength f_anythingBuilt f_tokenCount f_parseValue f_parsePlace (d + 1) (nI b.1) (nI l) a_ruleTerms a_ruleLengths a_skips a_grammar a_ranks a_groupings a_text a_heads a_tails a_empties a_placeLetters a_followers a_ruleEnds sx mx a_classes a_finerClasses a_states a_moves a_begins a_lookaheads a_builtCounts a_builtSteps a_builtMatches a_builtSkips a_builtGrammar a_builtMoves a_builtActions a_tokenRules a_tokenBegins a_tokenEnds a_stackStates a_stackValues := by
  intro d
  induction d with
  | zero =>
    intro l b sx mx hl hr g2 g3 g4 h
    have : l = 4 := by omega
    subst this
    exact pk_le 4 4 (fun _ => nm_r (nI_1 s) (Hs b sx mx hr h)) (fun z => absurd z (by omega))
  | succ d ih =>
    intro l b sx mx hl hr g2 g3 g4 h
    obtain ⟨k1, k2, k3, k4⟩ := h
    have hrep := tr_rp hw hx hy (s := s) (l := l) (by omega) (x := sx s) (y := b0.2.1 s) (fun e => by subst e; exact k1) (fun e => by rw [← g4]; exact k3 s (by omega) g3)
    have hrow : row 61 4 (trY foY tm start s (b0.2.1 s)) s b0 (l + 1) = cel 61 (4 * s + l) (trY foY tm start s (b0.2.1 s) l) b := by
      show (row 61 4 (trY foY tm start s (b0.2.1 s)) s b0 l).bind _ = _
      rw [hr]; rfl
    refine pk_le 4 l (fun z => absurd z (by omega)) (fun _ => ⟨vp_in_nI (by omega) (by omega), ?_⟩)
    rw [nI_clamp (show s < 2 ^ 31 by omega)]
    refine xb_ ?_
    generalize trX a_followers a_placeLetters (sx s) l = v at hrep
    generalize trY foY tm start s (b0.2.1 s) l = w at hrep hrow
    have e4 : nI s * 4 + nI l = nI (4 * s + l) := by rw [show (4 : Int32) = nI 4 from rfl, pk_mul, nI_add]; congr 1; omega
    have i4 : vp_in (nI (4 * s + l)) 244 := vp_in_nI (by omega) (by omega)
    have hv0 : v = 0 ↔ w = 0 := rpS_i hrep (rpS_0 tm sz)
    have u16 : lcn tm sz 32 ≤ 16 := lcn_4 hw 4 (by omega)
    have hfn : w ≠ 0 → fnd sx v b.1 = fnd b.2.1 w b.1 := by
      intro w0
      obtain ⟨f1, f2, f3⟩ := fnd_s b.2.1 w b.1
      have key : ∀ j, j < b.1 → (sx j = v ↔ b.2.1 j = w) := by
        intro j hj
        by_cases z : j = 0
        · subst z
          rw [k1, k2]
          refine ⟨fun e => ?_, fun e => absurd e.symm w0⟩
          have := hrep.2.1 16 u16
          rw [← e] at this
          exact absurd this (by decide)
        · exact rpS_i (k3 j (by omega) hj) hrep
      exact fnd_u f1 (fun j hj => fun e => f2 j hj ((key j (by omega)).mp e)) (fun hk => (key _ hk).mpr (f3 hk))
    have next : ∀ b' (sx' : Nat → Int64) (mx' : Nat → Int32), cel 61 (4 * s + l) w b = some b' → SR tm sz (4 * s + (l + 1)) b' sx' mx' → wX_findSets_26 post J13 (nI s) f_productionCount f_textLength f_anythingBuilt f_tokenCount f_parseValue f_parsePlace (d + 1) (nI b'.1) (nI (l + 1)) a_ruleTerms a_ruleLengths a_skips a_grammar a_ranks a_groupings a_text a_heads a_tails a_empties a_placeLetters a_followers a_ruleEnds (sx') (mx') a_classes a_finerClasses a_states a_moves a_begins a_lookaheads a_builtCounts a_builtSteps a_builtMatches a_builtSkips a_builtGrammar a_builtMoves a_builtActions a_tokenRules a_tokenBegins a_tokenEnds a_stackStates a_stackValues := by
      intro b' sx' mx' hb' h'
      obtain ⟨c1, c2, c3, -⟩ := cel_c g2 hb'
      exact ih (l + 1) b' sx' mx' (by omega) (hrow.trans hb') c2 (by omega) (by rw [c3 s g3]; exact g4) h'
    have mxs : ∀ (x : Int32) (M : Nat → Int32), (∀ j, j < 4 * s + l → mx j = M j) → ∀ j, j < 4 * s + (l + 1) → upd mx (4 * s + l) x j = upd M (4 * s + l) x j := by
      intro x M hM j hj
      by_cases z : j = 4 * s + l
      · subst z; rw [pk_us, pk_us]
      · rw [pk_un z, pk_un z]; exact hM j (by omega)
    by_cases w0 : w = 0
    · refine br_t (hv0.mpr w0) (br_f (by decide) (br_f (fun e => zn_ne1 (n := b.1) (by omega) e.symm) ?_))
      unfold wX_findSets_93
      rw [e4, nI_clamp (by omega)]
      refine ⟨i4, nm_e (nm_r (nI_1 l) (next (b.1, b.2.1, upd b.2.2 (4 * s + l) (-1)) sx _ ?_ ⟨k1, k2, k3, mxs _ _ k4⟩))⟩
      unfold cel; rw [if_pos w0]
    · refine br_f (fun e => w0 (hv0.mp e)) (xo_ (a_sets := sx) g2 ?_)
      rw [hfn w0]
      obtain ⟨f1, f2, f3⟩ := fnd_s b.2.1 w b.1
      generalize hk : fnd b.2.1 w b.1 = k at f1 f2 f3
      refine pk_eq k 61 (fun e61 => ?_) (fun n61 => pk_eq k b.1 (fun e => ⟨vp_in_nI (by omega) (by omega), ?_⟩) (fun ne => ?_))
      · have : cel 61 (4 * s + l) w b = none := by
          unfold cel; rw [if_neg w0, hk, if_pos e61]
        rw [this] at hrow
        have h4 := row_n hrow (3 - l)
        rw [show l + 1 + (3 - l) = 4 by omega] at h4
        exact Hn h4 sx mx
      · rw [nI_clamp (show b.1 < 2 ^ 31 by omega)]
        refine nm_e (nm_r (nI_1 b.1) ?_)
        unfold wX_findSets_93
        rw [e4, nI_clamp (by omega), e]
        refine ⟨i4, nm_e (nm_r (nI_1 l) (next (b.1 + 1, vp_updL b.2.1 b.1 w, upd b.2.2 (4 * s + l) (nI b.1)) (vp_updL sx b.1 v) _ ?_ ⟨?_, ?_, fun j j1 j2 => ?_, mxs _ _ k4⟩))⟩
        · unfold cel; rw [if_neg w0, hk, if_neg n61, if_pos e]
        · rw [ul_n (by omega)]; exact k1
        · show vp_updL b.2.1 b.1 w 0 = 0
          rw [ul_n (by omega)]; exact k2
        · show rpS tm sz (vp_updL sx b.1 v j) (vp_updL b.2.1 b.1 w j)
          by_cases z : j = b.1
          · subst z; rw [ul_s, ul_s]; exact hrep
          · have : j < b.1 + 1 := j2
            rw [ul_n z, ul_n z]; exact k3 j j1 (by omega)
      · unfold wX_findSets_93
        rw [e4, nI_clamp (by omega)]
        refine ⟨i4, nm_e (nm_r (nI_1 l) (next (b.1, b.2.1, upd b.2.2 (4 * s + l) (nI k)) sx _ ?_ ⟨k1, k2, k3, mxs _ _ k4⟩))⟩
        unfold cel; rw [if_neg w0, hk, if_neg n61, if_neg ne]
theorem xro_13 {post : Int32 → SX → Prop} {start : Int64} {ends foY : Nat → Int64} {tm sz : Nat → Nat} (hw : rwf tm sz) (hx : xLaid tm sz 4 a_placeLetters a_followers a_ruleEnds) (hy : yLaid tm sz 4 start ends foY) {b0 : Nat × (Nat → Int64) × (Nat → Int32)} (h1 : b0.1 = 1)
    (Hn : bf 61 4 (trY foY tm start) b0 61 = none → ∀ (sx : Nat → Int64) (mx : Nat → Int32), post (-1) (f_productionCount, f_textLength, f_anythingBuilt, f_tokenCount, f_parseValue, f_parsePlace, a_ruleTerms, a_ruleLengths, a_skips, a_grammar, a_ranks, a_groupings, a_text, a_heads, a_tails, a_empties, a_placeLetters, a_followers, a_ruleEnds, sx, mx, a_classes, a_finerClasses, a_states, a_moves, a_begins, a_lookaheads, a_builtCounts, a_builtSteps, a_builtMatches, a_builtSkips, a_builtGrammar, a_builtMoves, a_builtActions, a_tokenRules, a_tokenBegins, a_tokenEnds, a_stackStates, a_stackValues))
    (Hs : ∀ b (sx : Nat → Int64) (mx : Nat → Int32), bf 61 4 (trY foY tm start) b0 61 = some b → SR tm sz (4 * b.1) b sx mx → post (nI b.1) (f_productionCount, f_textLength, f_anythingBuilt, f_tokenCount, f_parseValue, f_parsePlace, a_ruleTerms, a_ruleLengths, a_skips, a_grammar, a_ranks, a_groupings, a_text, a_heads, a_tails, a_empties, a_placeLetters, a_followers, a_ruleEnds, sx, mx, a_classes, a_finerClasses, a_states, a_moves, a_begins, a_lookaheads, a_builtCounts, a_builtSteps, a_builtMatches, a_builtSkips, a_builtGrammar, a_builtMoves, a_builtActions, a_tokenRules, a_tokenBegins, a_tokenEnds, a_stackStates, a_stackValues)) :
    ∀ d s b (sx : Nat → Int64) (mx : Nat → Int32), s + d = 61 → s ≤ b.1 → bf 61 4 (trY foY tm start) b0 s = some b → SR tm sz (4 * s) b sx mx →
      wX_findSets_13 post f_productionCount f_textLength f_anythingBuilt f_tokenCount f_parseValue f_parsePlace (d + 1) (nI b.1) (nI s) a_ruleTerms a_ruleLengths a_skips a_grammar a_ranks a_groupings a_text a_heads a_tails a_empties a_placeLetters a_followers a_ruleEnds sx mx a_classes a_finerClasses a_states a_moves a_begins a_lookaheads a_builtCounts a_builtSteps a_builtMatches a_builtSkips a_builtGrammar a_builtMoves a_builtActions a_tokenRules a_tokenBegins a_tokenEnds a_stackStates a_stackValues := by
  intro d
  induction d with
  | zero =>
    intro s b sx mx hs hsb hb h
    have : s = 61 := by omega
    subst this
    obtain ⟨⟨i1, i2, -⟩, -⟩ := bf_i h1 (by omega) 61 b hb
    have e : b.1 = 61 := by omega
    rw [← e] at h
    exact pk_le 61 61 (fun _ => Hs b sx mx hb h) (fun z => absurd z (by omega))
  | succ d ih =>
    intro s b sx mx hs hsb hb h
    obtain ⟨⟨i1, i2, i3⟩, i4⟩ := bf_i h1 (by omega) s b hb
    refine pk_le 61 s (fun z => absurd z (by omega)) (fun _ => pk_le b.1 s (fun z => ?_) (fun z => ?_))
    · have e : b.1 = s := by omega
      have := bf_e hb z (61 - s)
      rw [show s + (61 - s) = 61 by omega] at this
      rw [← e] at h
      exact Hs b sx mx this h
    · have hstep : bf 61 4 (trY foY tm start) b0 (s + 1) = row 61 4 (trY foY tm start s (b.2.1 s)) s b 4 := by
        show (bf 61 4 (trY foY tm start) b0 s).bind _ = _
        rw [hb]
        show (if s < b.1 then _ else _) = _
        rw [if_pos z]
      refine ⟨5, xro_26 hw hx hy (b0 := b) (by omega) i2 z (fun hn sx' mx' => ?_) (fun b' sx' mx' hb' h' => ?_) 4 0 b sx mx (by omega) rfl i2 z rfl h⟩
      · rw [hn] at hstep
        have := bf_n hstep (60 - s)
        rw [show s + 1 + (60 - s) = 61 by omega] at this
        exact Hn this sx' mx'
      · obtain ⟨-, j5, -⟩ := row_i z ⟨i1, i2, i3⟩ 4 b' (Nat.le_refl _) hb'
        rw [hb'] at hstep
        exact ih (s + 1) b' sx' mx' (by omega) (by omega) hstep h'
/-- the component's listing of sets -/
theorem x_sets {post : Int32 → SX → Prop} {start : Int64} {ends foY : Nat → Int64} {tm sz : Nat → Nat} (hw : rwf tm sz) (hx : xLaid tm sz 4 a_placeLetters a_followers a_ruleEnds) (hy : yLaid tm sz 4 start ends foY) {G0 : Nat → Int64} {M0 : Nat → Int32} (hG : G0 0 = 0)
    (Hn : bf 61 4 (trY foY tm start) (1, G0, M0) 61 = none → ∀ (sx : Nat → Int64) (mx : Nat → Int32), post (-1) (f_productionCount, f_textLength, f_anythingBuilt, f_tokenCount, f_parseValue, f_parsePlace, a_ruleTerms, a_ruleLengths, a_skips, a_grammar, a_ranks, a_groupings, a_text, a_heads, a_tails, a_empties, a_placeLetters, a_followers, a_ruleEnds, sx, mx, a_classes, a_finerClasses, a_states, a_moves, a_begins, a_lookaheads, a_builtCounts, a_builtSteps, a_builtMatches, a_builtSkips, a_builtGrammar, a_builtMoves, a_builtActions, a_tokenRules, a_tokenBegins, a_tokenEnds, a_stackStates, a_stackValues))
    (Hs : ∀ b (sx : Nat → Int64) (mx : Nat → Int32), bf 61 4 (trY foY tm start) (1, G0, M0) 61 = some b → SR tm sz (4 * b.1) b sx mx → post (nI b.1) (f_productionCount, f_textLength, f_anythingBuilt, f_tokenCount, f_parseValue, f_parsePlace, a_ruleTerms, a_ruleLengths, a_skips, a_grammar, a_ranks, a_groupings, a_text, a_heads, a_tails, a_empties, a_placeLetters, a_followers, a_ruleEnds, sx, mx, a_classes, a_finerClasses, a_states, a_moves, a_begins, a_lookaheads, a_builtCounts, a_builtSteps, a_builtMatches, a_builtSkips, a_builtGrammar, a_builtMoves, a_builtActions, a_tokenRules, a_tokenBegins, a_tokenEnds, a_stackStates, a_stackValues)) : wpX_findSets post (f_productionCount, f_textLength, f_anythingBuilt, f_tokenCount, f_parseValue, f_parsePlace, a_ruleTerms, a_ruleLengths, a_skips, a_grammar, a_ranks, a_groupings, a_text, a_heads, a_tails, a_empties, a_placeLetters, a_followers, a_ruleEnds, a_sets, a_steps, a_classes, a_finerClasses, a_states, a_moves, a_begins, a_lookaheads, a_builtCounts, a_builtSteps, a_builtMatches, a_builtSkips, a_builtGrammar, a_builtMoves, a_builtActions, a_tokenRules, a_tokenBegins, a_tokenEnds, a_stackStates, a_stackValues) :=
  nm_e ⟨62, xro_13 hw hx hy (b0 := (1, G0, M0)) rfl Hn Hs 61 0 (1, G0, M0) (vp_updL a_sets 0 65536) a_steps (by omega) (by show 0 ≤ 1; omega) rfl ⟨ul_s, hG, fun k a b => absurd (show k < 1 from b) (by omega), fun j hj => absurd hj (Nat.not_lt_zero _)⟩⟩
end
