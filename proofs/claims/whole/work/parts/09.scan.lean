/-! the reference's scan against the cut -/
def lsp (tl tm sz : Nat → Nat) (r a n best : Nat) : Prop :=
  (best = 0 ∧ ∀ j, a < j → j ≤ n → ¬ lg tl tm sz r a j) ∨ (0 < best ∧ a + best ≤ n ∧ lg tl tm sz r a (a + best) ∧ ∀ j, a + best < j → j ≤ n → ¬ lg tl tm sz r a j)
section
variable {g_productions : Int32} {g_start : Int64} {g_sets g_states g_conflicts g_ready g_length g_tokens g_stuck g_scanned g_value g_place : Int32} {b_term b_size b_skipped b_left b_right b_width b_op b_constant b_rank b_grouping b_bTerm b_bSize b_bSkipped b_bLeft b_bWidth b_bOp b_bConstant : Nat → Int32} {b_follow b_ends b_first b_last : Nat → Int64} {b_none : Nat → Int32} {b_set : Nat → Int64} {b_leads b_apart : Nat → Int32} {b_state : Nat → Int64} {b_to b_look b_begins b_nullable b_act b_built b_leadTo b_text b_fits b_token b_stack b_worth : Nat → Int32} {post : Int32 → SY → Prop}
theorem yta_ {post : Int32 → Prop} {t : Nat} (ht : t < 10) (h : post (nI (tk t))) : wpY_takes post (g_productions, g_start, g_sets, g_states, g_conflicts, g_ready, g_length, g_tokens, g_stuck, g_scanned, g_value, g_place, b_term, b_size, b_skipped, b_left, b_right, b_width, b_op, b_constant, b_rank, b_grouping, b_bTerm, b_bSize, b_bSkipped, b_bLeft, b_bWidth, b_bOp, b_bConstant, b_follow, b_ends, b_first, b_last, b_none, b_set, b_leads, b_apart, b_state, b_to, b_look, b_begins, b_nullable, b_act, b_built, b_leadTo, b_text, b_fits, b_token, b_stack, b_worth) (nI t) := by
  unfold tk at h
  refine pk_le 5 t (fun c => pk_le 7 t (fun c2 => ?_) (fun c2 => ?_)) (fun c => ?_)
  · rw [if_neg (by omega), if_neg (by omega)] at h; exact h
  · rw [if_neg (by omega), if_pos (by omega)] at h; exact h
  · rw [if_pos (by omega)] at h; exact h
theorem y218 {a n : Nat} (han : a ≤ n) (hn : n ≤ 20) (H : ∀ best, ((best = 0 ∧ ∀ q, a < q → q < n + 1 → ¬ ft b_fits 0 a q) ∨ (0 < best ∧ a + best < n + 1 ∧ ft b_fits 0 a (a + best) ∧ ∀ q, a + best < q → q < n + 1 → ¬ ft b_fits 0 a q)) → post (nI best) (g_productions, g_start, g_sets, g_states, g_conflicts, g_ready, nI n, g_tokens, g_stuck, g_scanned, g_value, g_place, b_term, b_size, b_skipped, b_left, b_right, b_width, b_op, b_constant, b_rank, b_grouping, b_bTerm, b_bSize, b_bSkipped, b_bLeft, b_bWidth, b_bOp, b_bConstant, b_follow, b_ends, b_first, b_last, b_none, b_set, b_leads, b_apart, b_state, b_to, b_look, b_begins, b_nullable, b_act, b_built, b_leadTo, b_text, b_fits, b_token, b_stack, b_worth)) :
    ∀ d j best, j + d = n + 1 → a < j → ((best = 0 ∧ ∀ q, a < q → q < j → ¬ ft b_fits 0 a q) ∨ (0 < best ∧ a + best < j ∧ ft b_fits 0 a (a + best) ∧ ∀ q, a + best < q → q < j → ¬ ft b_fits 0 a q)) →
    wY_longest_218 post (nI a) (nI 1) g_productions g_start g_sets g_states g_conflicts g_ready (nI n) g_tokens g_stuck g_scanned g_value g_place b_term b_size b_skipped b_left b_right b_width b_op b_constant b_rank b_grouping b_bTerm b_bSize b_bSkipped b_bLeft b_bWidth b_bOp b_bConstant b_follow b_ends b_first b_last b_none b_set b_leads b_apart b_state b_to b_look b_begins b_nullable b_act b_built b_leadTo b_text b_fits b_token b_stack b_worth (d + 1) (nI best) (nI j) := by
  intro d
  induction d with
  | zero =>
    intro j best hj haj h
    have : j = n + 1 := by omega
    subst this
    exact pk_lt n (n + 1) (fun _ => H best h) (fun z => absurd z (by omega))
  | succ d ih =>
    intro j best hj haj h
    refine pk_lt n j (fun z => absurd z (by omega)) (fun _ => pk_le 1 0 (fun z => absurd z (by omega)) (fun _ => yp_ (e := 0) ⟨vp_in_nI (by omega) (by omega), ?_⟩))
    rw [nI_clamp (by omega)]
    by_cases c : b_fits (441 * 0 + 21 * a + j) = 0
    · refine br_t c (nm_r (nI_1 j) (ih (j + 1) best (by omega) (by omega) ?_))
      rcases h with ⟨h1, h2⟩ | ⟨h1, h2, h3, h4⟩
      · refine Or.inl ⟨h1, fun q x y => ?_⟩
        by_cases e : q = j
        · subst e; exact fun z => z c
        · exact h2 q x (by omega)
      · refine Or.inr ⟨h1, by omega, h3, fun q x y => ?_⟩
        by_cases e : q = j
        · subst e; exact fun z => z c
        · exact h4 q x (by omega)
    · refine br_f c (nm_r (pk_sub (by omega)) (nm_r (nI_1 j) (ih (j + 1) (j - a) (by omega) (by omega) (Or.inr ⟨by omega, by omega, ?_, fun q x y => absurd x (by omega)⟩))))
      rw [show a + (j - a) = j by omega]; exact c
theorem yl_8 {r a n z : Nat} (hr : r < 4) (han : a ≤ n) (hn : n ≤ 20) (htx : ∀ k, ∃ l, l < 4 ∧ b_text k = nI l) (hru : ru_ok b_bTerm b_bSize) (hw : wf_ (nv b_bTerm) (8 * r) z) (hz8 : z ≤ 8) (ez : b_bSize r = nI z)
    (H : ∀ best (f : Nat → Int32), lsp (nv b_text) (nv b_bTerm) (nv b_bSize) r a n best → post (nI best) (g_productions, g_start, g_sets, g_states, g_conflicts, g_ready, nI n, g_tokens, g_stuck, g_scanned, g_value, g_place, b_term, b_size, b_skipped, b_left, b_right, b_width, b_op, b_constant, b_rank, b_grouping, b_bTerm, b_bSize, b_bSkipped, b_bLeft, b_bWidth, b_bOp, b_bConstant, b_follow, b_ends, b_first, b_last, b_none, b_set, b_leads, b_apart, b_state, b_to, b_look, b_begins, b_nullable, b_act, b_built, b_leadTo, b_text, f, b_token, b_stack, b_worth)) :
    ∀ d k (f : Nat → Int32), k + d = z → (∀ ε, ε < dp (nv b_bTerm) (8 * r) k → ∀ i j, a ≤ i → i ≤ j → j ≤ n → (ft f ε i j ↔ ev (nv b_text) (nv b_bTerm) (8 * r) k ε i j)) →
    wY_longest_8 post (nI r) (nI a) (d + 1) (nI (dp (nv b_bTerm) (8 * r) k)) (nI (8 * r + k)) g_productions g_start g_sets g_states g_conflicts g_ready (nI n) g_tokens g_stuck g_scanned g_value g_place b_term b_size b_skipped b_left b_right b_width b_op b_constant b_rank b_grouping b_bTerm b_bSize b_bSkipped b_bLeft b_bWidth b_bOp b_bConstant b_follow b_ends b_first b_last b_none b_set b_leads b_apart b_state b_to b_look b_begins b_nullable b_act b_built b_leadTo b_text f b_token b_stack b_worth := by
  have c1 : (nI r).toNatClampNeg = r := nI_clamp (by omega)
  have e8 : 8 * nI r + nI z = nI (8 * r + z) := by rw [show (8 : Int32) = nI 8 from rfl, pk_mul, nI_add]
  have ezn : nv b_bSize r = z := by unfold nv; rw [ez]; exact nI_clamp (by omega)
  intro d
  induction d with
  | zero =>
    intro k f hk hf
    have : k = z := by omega
    subst this
    refine ⟨vp_in_nI hr (by omega), ?_⟩
    rw [c1, ez, e8]
    refine pk_le (8 * r + k) (8 * r + k) (fun _ => nm_r (nI_1 a) ?_) (fun z => absurd z (by omega))
    rcases hw.2 with h0 | h1
    · subst h0
      refine ⟨1, ?_⟩
      have hl : post (nI 0) (g_productions, g_start, g_sets, g_states, g_conflicts, g_ready, nI n, g_tokens, g_stuck, g_scanned, g_value, g_place, b_term, b_size, b_skipped, b_left, b_right, b_width, b_op, b_constant, b_rank, b_grouping, b_bTerm, b_bSize, b_bSkipped, b_bLeft, b_bWidth, b_bOp, b_bConstant, b_follow, b_ends, b_first, b_last, b_none, b_set, b_leads, b_apart, b_state, b_to, b_look, b_begins, b_nullable, b_act, b_built, b_leadTo, b_text, f, b_token, b_stack, b_worth) := H 0 f (Or.inl ⟨rfl, fun j _ _ z => absurd z.1 (by rw [ezn]; omega)⟩)
      exact br_c (fun _ => hl) (fun _ => pk_le 0 0 (fun _ => hl) (fun z => absurd z (by omega)))
    · rw [h1]
      have hf0 := hf 0 (by omega) a
      have k0 : 0 < k := by
        rcases Nat.eq_zero_or_pos k with z | z
        · subst z; exact absurd h1 (by show ¬ (0 = 1); decide)
        · exact z
      have hlg : ∀ j, a ≤ j → j ≤ n → (ft f 0 a j ↔ lg (nv b_text) (nv b_bTerm) (nv b_bSize) r a j) := by
        intro j h2 h3
        refine (hf0 j (by omega) h2 h3).trans ?_
        unfold lg
        rw [ezn]
        exact ⟨fun z => ⟨k0, z⟩, fun z => z.2⟩
      refine ⟨n - a + 1, y218 (b_fits := f) han hn (fun best hb => H best f ?_) (n - a) (a + 1) 0 (by omega) (by omega) (Or.inl ⟨rfl, fun q x y => absurd x (by omega)⟩)⟩
      rcases hb with ⟨b1, b2⟩ | ⟨b1, b2, b3, b4⟩
      · exact Or.inl ⟨b1, fun j x y z => b2 j x (by omega) ((hlg j (by omega) y).mpr z)⟩
      · exact Or.inr ⟨b1, by omega, (hlg _ (by omega) (by omega)).mp b3, fun j x y z => b4 j x (by omega) ((hlg j (by omega) y).mpr z)⟩
  | succ d ih =>
    intro k f hk hf
    obtain ⟨t, ht, et⟩ := hru.1 (8 * r + k)
    have etn : nv b_bTerm (8 * r + k) = t := by unfold nv; rw [et]; exact nI_clamp (by omega)
    have htk := hw.1 k (by omega)
    rw [etn] at htk
    have hdp : dp (nv b_bTerm) (8 * r) (k + 1) = dp (nv b_bTerm) (8 * r) k - tk t + 1 := by
      show dp (nv b_bTerm) (8 * r) k + 1 - tk (nv b_bTerm (8 * r + k)) = _
      rw [etn]; omega
    have hd4 := dp_4 hw hz8 (k := k) (by omega)
    refine ⟨vp_in_nI hr (by omega), ?_⟩
    rw [c1, ez, e8]
    refine pk_le (8 * r + z) (8 * r + k) (fun z => absurd z (by omega)) (fun _ => ⟨vp_in_nI (by omega) (by omega), ?_⟩)
    rw [nI_clamp (show 8 * r + k < 2 ^ 31 by omega), et]
    refine yta_ ht (nm_r (pk_sub htk) ?_)
    refine yt_ (b_fits := f) ht htk rfl hd4 hn han (by omega) htx et hf (fun f' hf' => ?_)
    rw [← hdp, Nat.add_assoc]
    refine ih (k + 1) f' (by omega) ?_
    intro ε hε i j x y w
    rw [hdp] at hε
    refine (hf' ε hε i j x y w).trans ?_
    show _ ↔ sm (nv b_text) (nv b_bTerm (8 * r + k)) (dp (nv b_bTerm) (8 * r) k) (ev (nv b_text) (nv b_bTerm) (8 * r) k) ε i j
    rw [etn]
theorem yl_ {r a n : Nat} (hr : r < 4) (han : a ≤ n) (hn : n ≤ 20) (htx : ∀ k, ∃ l, l < 4 ∧ b_text k = nI l) (hru : ru_ok b_bTerm b_bSize) (hw : wf_ (nv b_bTerm) (8 * r) (nv b_bSize r))
    (H : ∀ best (f : Nat → Int32), lsp (nv b_text) (nv b_bTerm) (nv b_bSize) r a n best → post (nI best) (g_productions, g_start, g_sets, g_states, g_conflicts, g_ready, nI n, g_tokens, g_stuck, g_scanned, g_value, g_place, b_term, b_size, b_skipped, b_left, b_right, b_width, b_op, b_constant, b_rank, b_grouping, b_bTerm, b_bSize, b_bSkipped, b_bLeft, b_bWidth, b_bOp, b_bConstant, b_follow, b_ends, b_first, b_last, b_none, b_set, b_leads, b_apart, b_state, b_to, b_look, b_begins, b_nullable, b_act, b_built, b_leadTo, b_text, f, b_token, b_stack, b_worth)) : wpY_longest post (g_productions, g_start, g_sets, g_states, g_conflicts, g_ready, nI n, g_tokens, g_stuck, g_scanned, g_value, g_place, b_term, b_size, b_skipped, b_left, b_right, b_width, b_op, b_constant, b_rank, b_grouping, b_bTerm, b_bSize, b_bSkipped, b_bLeft, b_bWidth, b_bOp, b_bConstant, b_follow, b_ends, b_first, b_last, b_none, b_set, b_leads, b_apart, b_state, b_to, b_look, b_begins, b_nullable, b_act, b_built, b_leadTo, b_text, b_fits, b_token, b_stack, b_worth) (nI r) (nI a) := by
  obtain ⟨z, hz, ez⟩ := hru.2 r
  have ezn : nv b_bSize r = z := by unfold nv; rw [ez]; exact nI_clamp (by omega)
  rw [ezn] at hw
  refine nm_r (e' := nI (8 * r + 0)) (by rw [show (8 : Int32) = nI 8 from rfl, pk_mul]; rfl) ⟨z + 1, ?_⟩
  exact yl_8 hr han hn htx hru hw hz ez H z 0 b_fits (by omega) (fun ε h => absurd h (Nat.not_lt_zero _))
end
/-- the longest match of all rules: its end and its rule -/
def msp (tl tm sz : Nat → Nat) (a i q e : Nat) (m : Int32) : Prop :=
  (m = -1 ∧ ∀ r, r < q → ∀ j, a < j → j ≤ i → ¬ lg tl tm sz r a j) ∨
  ∃ r, r < q ∧ m = nI r ∧ a < e ∧ e ≤ i ∧ lg tl tm sz r a e ∧ (∀ p, p < r → ¬ lg tl tm sz p a e) ∧ ∀ p, p < q → ∀ j, e < j → j ≤ i → ¬ lg tl tm sz p a j
theorem dr_m1 {st : Nat → Int32} {tl : Nat → Nat} {a k : Nat} (h : dr st tl a k = -1) : ∀ d, dr st tl a (k + d) = -1
  | 0 => h
  | d + 1 => by
    show (if dr st tl a (k + d) = -1 then -1 else _) = _
    rw [if_pos (dr_m1 h d)]
theorem mu_s {st ma : Nat → Int32} {tl tm sz : Nat → Nat} {a n c : Nat} (hc : c ≤ 61)
    (hst : ∀ s l, s < c → l < 4 → st (4 * s + l) = -1 ∨ ∃ q, q < c ∧ st (4 * s + l) = nI q) (htl : ∀ i, tl i < 4) (hm : ∀ m, sc_m st ma tl tm sz a m) :
    ∀ d i s e m, a ≤ i → i + d = n → s < c → dr st tl a (i - a) = nI s → msp tl tm sz a i 4 e m → msp tl tm sz a n 4 (mu st ma tl d i s (e, m)).1 (mu st ma tl d i s (e, m)).2 := by
  intro d
  induction d with
  | zero => intro i s e m hi hn hs hd h; have : i = n := by omega
            subst this; exact h
  | succ d ih =>
    intro i s e m hi hn hs hd h
    have hdr : dr st tl a (i - a + 1) = st (4 * s + tl i) := by
      show (if dr st tl a (i - a) = -1 then -1 else st (4 * (dr st tl a (i - a)).toNatClampNeg + tl (a + (i - a)))) = _
      rw [hd, if_neg (zn_ne1 (by omega)), nI_clamp (by omega), show a + (i - a) = i by omega]
    unfold mu
    rcases hst s (tl i) hs (htl i) with h1 | ⟨q, hq, h1⟩
    · rw [if_pos h1]
      have no : ∀ r, r < 4 → ∀ j, i < j → ¬ lg tl tm sz r a j := by
        intro r hr j hj
        have h2 := dr_m1 (hdr.trans h1) (j - i - 1)
        have h3 := hm (j - a - 1)
        rcases h3 with ⟨_, h4⟩ | ⟨r', hr', h4, _⟩
        · rw [show a + (j - a - 1) + 1 = j by omega] at h4; exact h4 r hr
        · unfold sc_v at h4
          rw [show j - a - 1 + 1 = i - a + 1 + (j - i - 1) by omega, if_pos h2] at h4
          exact absurd h4.symm (zn_ne1 (by omega))
      rcases h with ⟨e1, h2⟩ | ⟨r, h2, h3, h4, h5, h6, h7, h8⟩
      · refine Or.inl ⟨e1, fun r hr j x y => ?_⟩
        by_cases z : j ≤ i
        · exact h2 r hr j x z
        · exact no r hr j (by omega)
      · refine Or.inr ⟨r, h2, h3, h4, by show e ≤ n; omega, h6, h7, fun p hp j x y => ?_⟩
        by_cases z : j ≤ i
        · exact h8 p hp j x z
        · exact no p hp j (by omega)
    · have h1' := h1
      rw [if_neg (by rw [h1]; exact zn_ne1 (by omega)), h1, nI_clamp (by omega)]
      have hv : sc_v st ma tl a (i - a + 1) = ma q := by
        unfold sc_v
        rw [hdr, h1, if_neg (zn_ne1 (by omega)), nI_clamp (by omega)]
      have h3 := hm (i - a)
      unfold sc_m at h3
      rw [hv, show a + (i - a) + 1 = i + 1 by omega] at h3
      have hd' : dr st tl a (i + 1 - a) = nI q := by rw [show i + 1 - a = i - a + 1 by omega, hdr, h1]
      rcases h3 with ⟨h4, h5⟩ | ⟨r, hr, h4, h5, h6⟩
      · rw [if_pos h4]
        refine ih (i + 1) q e m (by omega) (by omega) hq hd' ?_
        rcases h with ⟨e1, h2⟩ | ⟨r, h2, h3, h4, h5', h6, h7, h8⟩
        · refine Or.inl ⟨e1, fun r hr j x y => ?_⟩
          by_cases z : j ≤ i
          · exact h2 r hr j x z
          · have : j = i + 1 := by omega
            subst this; exact h5 r hr
        · refine Or.inr ⟨r, h2, h3, h4, by omega, h6, h7, fun p hp j x y => ?_⟩
          by_cases z : j ≤ i
          · exact h8 p hp j x z
          · have : j = i + 1 := by omega
            subst this; exact h5 p hp
      · rw [if_neg (by rw [h4]; exact zn_ne1 (by omega)), h4]
        exact ih (i + 1) q (i + 1) (nI r) (by omega) (by omega) hq hd' (Or.inr ⟨r, hr, rfl, by omega, by omega, h5, h6, fun p hp j x y => absurd x (by omega)⟩)
theorem mx_s {st ma bT bS : Nat → Int32} {tl : Nat → Nat} {a n : Nat} (hs : sc_ok st ma bT bS) (htl : ∀ i, tl i < 4) (ha : a ≤ n) : msp tl (nv bT) (nv bS) a n 4 (mx st ma tl n a).1 (mx st ma tl n a).2 := by
  obtain ⟨-, -, c, hc0, hc, hst, hma, hm⟩ := hs
  exact mu_s hc hst htl (hm tl htl a) (n - a) a 0 a (-1) (by omega) (by omega) hc0 (by rw [Nat.sub_self]; rfl) (Or.inl ⟨rfl, fun r hr j x y => absurd x (by omega)⟩)
theorem ms_u {tl tm sz : Nat → Nat} {a n e e' : Nat} {m m' : Int32} (h : msp tl tm sz a n 4 e m) (h' : msp tl tm sz a n 4 e' m') : m = m' ∧ (m = -1 ∨ e = e') := by
  rcases h with ⟨h1, h2⟩ | ⟨r, h1, h2, h3, h4, h5, h6, h7⟩
  · rcases h' with ⟨k1, k2⟩ | ⟨q, k1, k2, k3, k4, k5, k6, k7⟩
    · exact ⟨by rw [h1, k1], Or.inl h1⟩
    · exact absurd k5 (h2 q k1 e' k3 k4)
  · rcases h' with ⟨k1, k2⟩ | ⟨q, k1, k2, k3, k4, k5, k6, k7⟩
    · exact absurd h5 (k2 r h1 e h3 h4)
    · have ee : e = e' := by
        rcases Nat.lt_trichotomy e e' with z | z | z
        · exact absurd k5 (h7 q k1 e' z k4)
        · exact z
        · exact absurd h5 (k7 r h1 e z h4)
      subst ee
      have : r = q := by
        rcases Nat.lt_trichotomy r q with z | z | z
        · exact absurd h5 (k6 r z)
        · exact z
        · exact absurd k5 (h6 q z)
      subst this
      exact ⟨by rw [h2, k2], Or.inr rfl⟩
section
variable {g_productions : Int32} {g_start : Int64} {g_sets g_states g_conflicts g_ready g_length g_tokens g_stuck g_scanned g_value g_place : Int32} {b_term b_size b_skipped b_left b_right b_width b_op b_constant b_rank b_grouping b_bTerm b_bSize b_bSkipped b_bLeft b_bWidth b_bOp b_bConstant : Nat → Int32} {b_follow b_ends b_first b_last : Nat → Int64} {b_none : Nat → Int32} {b_set : Nat → Int64} {b_leads b_apart : Nat → Int32} {b_state : Nat → Int64} {b_to b_look b_begins b_nullable b_act b_built b_leadTo b_text b_fits b_token b_stack b_worth : Nat → Int32} {post : SY → Prop} {J25 : Int32 → Int32 → Int64 → Int32 → Int32 → Int32 → Int32 → Int32 → Int32 → Int32 → Int32 → Int32 → Int32 → (Nat → Int32) → (Nat → Int32) → (Nat → Int32) → (Nat → Int32) → (Nat → Int32) → (Nat → Int32) → (Nat → Int32) → (Nat → Int32) → (Nat → Int32) → (Nat → Int32) → (Nat → Int32) → (Nat → Int32) → (Nat → Int32) → (Nat → Int32) → (Nat → Int32) → (Nat → Int32) → (Nat → Int32) → (Nat → Int64) → (Nat → Int64) → (Nat → Int64) → (Nat → Int64) → (Nat → Int32) → (Nat → Int64) → (Nat → Int32) → (Nat → Int32) → (Nat → Int64) → (Nat → Int32) → (Nat → Int32) → (Nat → Int32) → (Nat → Int32) → (Nat → Int32) → (Nat → Int32) → (Nat → Int32) → (Nat → Int32) → (Nat → Int32) → (Nat → Int32) → (Nat → Int32) → (Nat → Int32) → Prop}
theorem ys_47 {a n : Nat} (han : a < n) (hn : n ≤ 20) (htx : ∀ k, ∃ l, l < 4 ∧ b_text k = nI l) (hru : ru_ok b_bTerm b_bSize) (hw : ∀ r, r < 4 → wf_ (nv b_bTerm) (8 * r) (nv b_bSize r)) {cn : Nat} (hcn : cn < 20)
    (H0 : (∀ r, r < 4 → ∀ j, a < j → j ≤ n → ¬ lg (nv b_text) (nv b_bTerm) (nv b_bSize) r a j) → ∀ f : Nat → Int32, J25 (nI a) g_productions g_start g_sets g_states g_conflicts g_ready (nI n) (nI cn) (nI a) g_scanned g_value g_place b_term b_size b_skipped b_left b_right b_width b_op b_constant b_rank b_grouping b_bTerm b_bSize b_bSkipped b_bLeft b_bWidth b_bOp b_bConstant b_follow b_ends b_first b_last b_none b_set b_leads b_apart b_state b_to b_look b_begins b_nullable b_act b_built b_leadTo b_text f b_token b_stack b_worth)
    (H1 : ∀ r e, r < 4 → msp (nv b_text) (nv b_bTerm) (nv b_bSize) a n 4 e (nI r) → a < e → e ≤ n → ∀ f : Nat → Int32, (b_bSkipped r = 0 → J25 (nI e) g_productions g_start g_sets g_states g_conflicts g_ready (nI n) (nI (cn + 1)) g_stuck g_scanned g_value g_place b_term b_size b_skipped b_left b_right b_width b_op b_constant b_rank b_grouping b_bTerm b_bSize b_bSkipped b_bLeft b_bWidth b_bOp b_bConstant b_follow b_ends b_first b_last b_none b_set b_leads b_apart b_state b_to b_look b_begins b_nullable b_act b_built b_leadTo b_text f (upd (upd (upd b_token (3 * cn) (nI r)) (3 * cn + 1) (nI a)) (3 * cn + 2) (nI e)) b_stack b_worth) ∧ (¬ b_bSkipped r = 0 → J25 (nI e) g_productions g_start g_sets g_states g_conflicts g_ready (nI n) (nI cn) g_stuck g_scanned g_value g_place b_term b_size b_skipped b_left b_right b_width b_op b_constant b_rank b_grouping b_bTerm b_bSize b_bSkipped b_bLeft b_bWidth b_bOp b_bConstant b_follow b_ends b_first b_last b_none b_set b_leads b_apart b_state b_to b_look b_begins b_nullable b_act b_built b_leadTo b_text f b_token b_stack b_worth)) :
    ∀ d r best by_ (f : Nat → Int32), r + d = 4 → msp (nv b_text) (nv b_bTerm) (nv b_bSize) a n r (a + best) by_ → (by_ = -1 ↔ best = 0) →
    wY_scan_47 post J25 (nI a) (d + 1) (nI best) by_ (nI r) g_productions g_start g_sets g_states g_conflicts g_ready (nI n) (nI cn) g_stuck g_scanned g_value g_place b_term b_size b_skipped b_left b_right b_width b_op b_constant b_rank b_grouping b_bTerm b_bSize b_bSkipped b_bLeft b_bWidth b_bOp b_bConstant b_follow b_ends b_first b_last b_none b_set b_leads b_apart b_state b_to b_look b_begins b_nullable b_act b_built b_leadTo b_text f b_token b_stack b_worth := by
  intro d
  induction d with
  | zero =>
    intro r best by_ f hr hm hb
    have : r = 4 := by omega
    subst this
    refine pk_le 4 4 (fun _ => ?_) (fun z => absurd z (by omega))
    rcases hm with ⟨h1, h2⟩ | ⟨q, h1, h2, h3, h4, h5, h6, h7⟩
    · have b0 := hb.mp h1
      subst b0
      refine br_t rfl (nm_r (e' := nI a) (by rw [nI_add]; rfl) (H0 h2 f))
    · have hq : best < 2 ^ 31 := by omega
      have bn : best ≠ 0 := fun z => zn_ne1 (n := q) (by omega) (by rw [← h2]; exact hb.mpr z)
      obtain ⟨g1, g2⟩ := H1 q (a + best) h1 (Or.inr ⟨q, h1, rfl, h3, h4, h5, h6, h7⟩) h3 h4 f
      subst h2
      refine br_f (nI_ne0 (by omega) hq) ⟨vp_in_nI h1 (by omega), ?_⟩
      rw [nI_clamp (show q < 2 ^ 31 by omega)]
      refine br_c (fun c => ?_) (fun c => nm_r (nI_add a best) (g2 c))
      have e0 : 3 * nI cn = nI (3 * cn) := by rw [show (3 : Int32) = nI 3 from rfl, pk_mul]
      have e1 : 3 * nI cn + 1 = nI (3 * cn + 1) := by rw [e0, nI_1]
      have e2 : 3 * nI cn + 2 = nI (3 * cn + 2) := by rw [e0, show (2 : Int32) = nI 2 from rfl, nI_add]
      rw [e2, e1, e0, nI_clamp (by omega), nI_clamp (by omega), nI_clamp (by omega)]
      refine ⟨vp_in_nI (by omega) (by omega), nm_e ⟨vp_in_nI (by omega) (by omega), nm_e (nm_r (nI_1 cn) ⟨vp_in_nI (by omega) (by omega), nm_e (nm_r (nI_add a best) ?_)⟩)⟩⟩
      rw [nI_add a best]
      exact g1 c
  | succ d ih =>
    intro r best by_ f hr hm hb
    refine pk_le 4 r (fun z => absurd z (by omega)) (fun _ => ?_)
    refine yl_ (b_fits := f) (by omega) (by omega) hn htx hru (hw r (by omega)) (fun b' f' hl => ?_)
    dsimp only
    have hbn : best ≤ 20 := by
      rcases hm with ⟨h1, -⟩ | ⟨q, h1, h2, h3, h4, -⟩
      · have := hb.mp h1; omega
      · omega
    have hbn' : b' ≤ 20 := by
      rcases hl with ⟨h1, -⟩ | ⟨h1, h2, -⟩ <;> omega
    refine pk_le b' best (fun c => nm_r (nI_1 r) (ih (r + 1) best by_ f' (by omega) ?_ hb)) (fun c => nm_r (nI_1 r) (ih (r + 1) b' (nI r) f' (by omega) ?_ ⟨fun z => absurd z (zn_ne1 (by omega)), fun z => absurd z (by omega)⟩))
    · rcases hm with ⟨h1, h2⟩ | ⟨q, h1, h2, h3, h4, h5, h6, h7⟩
      · have b0 := hb.mp h1
        refine Or.inl ⟨h1, fun p hp j x y => ?_⟩
        by_cases e : p = r
        · subst e
          rcases hl with ⟨k1, k2⟩ | ⟨k1, -⟩
          · exact k2 j x y
          · omega
        · exact h2 p (by omega) j x y
      · refine Or.inr ⟨q, by omega, h2, h3, h4, h5, h6, fun p hp j x y => ?_⟩
        by_cases e : p = r
        · subst e
          rcases hl with ⟨k1, k2⟩ | ⟨k1, k2, k3, k4⟩
          · exact k2 j (by omega) y
          · exact k4 j (by omega) y
        · exact h7 p (by omega) j x y
    · rcases hl with ⟨k1, -⟩ | ⟨k1, k2, k3, k4⟩
      · omega
      · refine Or.inr ⟨r, by omega, rfl, by omega, k2, k3, fun p hp => ?_, fun p hp j x y => ?_⟩
        · rcases hm with ⟨h1, h2⟩ | ⟨q, h1, h2, h3, h4, h5, h6, h7⟩
          · exact h2 p hp _ (by omega) k2
          · exact h7 p hp _ (by omega) k2
        · by_cases e : p = r
          · subst e; exact k4 j x y
          · rcases hm with ⟨h1, h2⟩ | ⟨q, h1, h2, h3, h4, h5, h6, h7⟩
            · exact h2 p (by omega) j (by omega) y
            · exact h7 p (by omega) j (by omega) y
theorem ys_25 {n : Nat} {st ma sk : Nat → Int32} (hn : n ≤ 20) (htx : ∀ k, ∃ l, l < 4 ∧ b_text k = nI l) (hs : sc_ok st ma b_bTerm b_bSize) (hsk : ∀ r, r < 4 → b_bSkipped r = sk r) {z : Nat × Nat × (Nat → Int32) × (Nat → Int32) × (Nat → Int32)}
    (H : ∀ (su : Int32) (f tk : Nat → Int32), tk_ok z n (nI z.2.1) su tk → post (g_productions, g_start, g_sets, g_states, g_conflicts, g_ready, nI n, nI z.2.1, su, g_scanned, g_value, g_place, b_term, b_size, b_skipped, b_left, b_right, b_width, b_op, b_constant, b_rank, b_grouping, b_bTerm, b_bSize, b_bSkipped, b_bLeft, b_bWidth, b_bOp, b_bConstant, b_follow, b_ends, b_first, b_last, b_none, b_set, b_leads, b_apart, b_state, b_to, b_look, b_begins, b_nullable, b_act, b_built, b_leadTo, b_text, f, tk, b_stack, b_worth)) :
    ∀ d a cn p b e (f tk : Nat → Int32), a ≤ n → n ≤ a + d → cn + d ≤ 20 → (∀ k, k < cn → tk (3 * k) = p k ∧ tk (3 * k + 1) = b k ∧ tk (3 * k + 2) = e k) → ct st ma sk (nv b_text) n d (a, cn, p, b, e) = z →
      wY_scan_25 post (d + 2) (nI a) g_productions g_start g_sets g_states g_conflicts g_ready (nI n) (nI cn) (-1) g_scanned g_value g_place b_term b_size b_skipped b_left b_right b_width b_op b_constant b_rank b_grouping b_bTerm b_bSize b_bSkipped b_bLeft b_bWidth b_bOp b_bConstant b_follow b_ends b_first b_last b_none b_set b_leads b_apart b_state b_to b_look b_begins b_nullable b_act b_built b_leadTo b_text f tk b_stack b_worth := by
  have htl : ∀ i, nv b_text i < 4 := fun i => by
    obtain ⟨l, hl, el⟩ := htx i
    unfold nv; rw [el, nI_clamp (by omega)]; exact hl
  intro d
  induction d with
  | zero =>
    intro a cn p b e f tk ha hd hcn htk hz
    subst hz
    refine pk_le n a (fun _ => H (-1) f tk ⟨rfl, fun y => ?_, fun _ => rfl, htk⟩) (fun y => absurd y (by omega))
    have : a < n := y
    omega
  | succ d ih =>
    intro a cn p b e f tk ha hd hcn htk hz
    unfold ct at hz
    refine pk_le n a (fun c => ?_) (fun c => br_f (by decide) ⟨5, ?_⟩)
    · rw [if_pos c] at hz
      subst hz
      refine H (-1) f tk ⟨rfl, fun y => ?_, fun _ => rfl, htk⟩
      have : a < n := y
      omega
    · rw [if_neg (by omega)] at hz
      have hmx := mx_s hs htl (n := n) (a := a) ha
      generalize mx st ma (nv b_text) n a = r at hz hmx
      refine ys_47 (b_token := tk) (cn := cn) c hn htx hs.1 hs.2.1 (by omega) (fun hno f' => ?_) (fun q e' hq hms he1 he2 f' => ?_) 4 0 0 (-1) f (by omega) (Or.inl ⟨rfl, fun p hp => absurd hp (by omega)⟩) ⟨fun _ => rfl, fun _ => rfl⟩
      · have e1 : r.2 = -1 := (ms_u hmx (Or.inl ⟨rfl, hno⟩ : msp _ _ _ a n 4 0 (-1))).1
        rw [if_pos e1] at hz
        subst hz
        refine br_f (nI_ge c (by omega)) (br_t (nI_pos' (by omega)) (H (nI a) f' tk ⟨rfl, fun _ => rfl, fun y => ?_, htk⟩))
        have : n ≤ a := y
        omega
      · obtain ⟨u1, u2⟩ := ms_u hmx hms
        have hne : ¬ r.2 = -1 := by rw [u1]; exact zn_ne1 (by omega)
        have u3 := u2.resolve_left hne
        rw [if_neg hne, u1, u3, nI_clamp (by omega)] at hz
        refine ⟨fun c1 => ?_, fun c1 => ?_⟩
        · rw [if_pos (by rw [← hsk q hq]; exact c1)] at hz
          refine ih e' (cn + 1) _ _ _ f' _ he2 (by omega) (by omega) ?_ hz
          intro k hk
          by_cases ek : k = cn
          · subst ek
            exact ⟨by rw [pk_un (by omega), pk_un (by omega), pk_us, pk_us], by rw [pk_un (by omega), pk_us, pk_us], by rw [pk_us, pk_us]⟩
          · rw [pk_un (by omega), pk_un (by omega), pk_un (by omega), pk_un (show 3 * k + 1 ≠ 3 * cn + 2 by omega), pk_un (show 3 * k + 1 ≠ 3 * cn + 1 by omega), pk_un (show 3 * k + 1 ≠ 3 * cn by omega), pk_un (show 3 * k + 2 ≠ 3 * cn + 2 by omega), pk_un (show 3 * k + 2 ≠ 3 * cn + 1 by omega), pk_un (show 3 * k + 2 ≠ 3 * cn by omega), pk_un ek, pk_un ek, pk_un ek]
            exact htk k (by omega)
        · rw [if_neg (by rw [← hsk q hq]; exact c1)] at hz
          exact ih e' cn _ _ _ f' _ he2 (by omega) (by omega) htk hz
theorem ys_ {n : Nat} {st ma sk : Nat → Int32} (hn : n ≤ 20) (htx : ∀ k, ∃ l, l < 4 ∧ b_text k = nI l) (hs : sc_ok st ma b_bTerm b_bSize) (hsk : ∀ r, r < 4 → b_bSkipped r = sk r) {z : Nat × Nat × (Nat → Int32) × (Nat → Int32) × (Nat → Int32)} (hz : cz st ma sk (nv b_text) n = z)
    (hsd : g_scanned = 0 ∨ tk_ok z n g_tokens g_stuck b_token)
    (H : ∀ (su sd : Int32) (f tk : Nat → Int32), tk_ok z n (nI z.2.1) su tk → post (g_productions, g_start, g_sets, g_states, g_conflicts, g_ready, nI n, nI z.2.1, su, sd, g_value, g_place, b_term, b_size, b_skipped, b_left, b_right, b_width, b_op, b_constant, b_rank, b_grouping, b_bTerm, b_bSize, b_bSkipped, b_bLeft, b_bWidth, b_bOp, b_bConstant, b_follow, b_ends, b_first, b_last, b_none, b_set, b_leads, b_apart, b_state, b_to, b_look, b_begins, b_nullable, b_act, b_built, b_leadTo, b_text, f, tk, b_stack, b_worth)) : wpY_scan post (g_productions, g_start, g_sets, g_states, g_conflicts, g_ready, nI n, g_tokens, g_stuck, g_scanned, g_value, g_place, b_term, b_size, b_skipped, b_left, b_right, b_width, b_op, b_constant, b_rank, b_grouping, b_bTerm, b_bSize, b_bSkipped, b_bLeft, b_bWidth, b_bOp, b_bConstant, b_follow, b_ends, b_first, b_last, b_none, b_set, b_leads, b_apart, b_state, b_to, b_look, b_begins, b_nullable, b_act, b_built, b_leadTo, b_text, b_fits, b_token, b_stack, b_worth) := by
  by_cases c : g_scanned = 0
  · refine br_t c ⟨22, ys_25 hn htx hs hsk (fun su f tk h => H su 1 f tk h) 20 0 0 _ _ _ b_fits b_token (by omega) (by omega) (by omega) (fun k hk => absurd hk (by omega)) hz⟩
  · refine br_f c ?_
    have h := hsd.resolve_left c
    have := H g_stuck g_scanned b_fits b_token ⟨rfl, h.2⟩
    rw [← h.1] at this
    exact this
end
