/-! the reference's longest match of one rule -/
theorem pl_un {A : Nat → Nat → Prop} {i j : Nat} : pl A i j ↔ ∃ m, i < m ∧ m ≤ j ∧ A i m ∧ (m = j ∨ pl A m j) := by
  constructor
  · rintro ⟨n, h⟩
    cases n with
    | zero => exact absurd h id
    | succ n =>
      obtain ⟨m, a, b, c, d⟩ := h
      exact ⟨m, a, b, c, d.imp id (fun z => ⟨n, z⟩)⟩
  · rintro ⟨m, a, b, c, d⟩
    rcases d with d | ⟨n, d⟩
    · exact ⟨1, m, a, b, c, Or.inl d⟩
    · exact ⟨n + 1, m, a, b, c, Or.inr d⟩
theorem pl_cg {A B : Nat → Nat → Prop} {a n : Nat} (h : ∀ i j, a ≤ i → i ≤ j → j ≤ n → (A i j → B i j)) : ∀ k i j, a ≤ i → j ≤ n → pl_ A k i j → pl_ B k i j := by
  intro k
  induction k with
  | zero => intro i j _ _ z; exact z
  | succ k ih =>
    rintro i j hi hj ⟨m, x, y, z, w⟩
    exact ⟨m, x, y, h i m hi (by omega) (by omega) z, w.imp id (ih m j (by omega) hj)⟩
theorem pl_cong {A B : Nat → Nat → Prop} {a n : Nat} (h : ∀ i j, a ≤ i → i ≤ j → j ≤ n → (A i j ↔ B i j)) {i j : Nat} (hi : a ≤ i) (hj : j ≤ n) : pl A i j ↔ pl B i j :=
  ⟨fun ⟨k, z⟩ => ⟨k, pl_cg (fun i j x y w => (h i j x y w).mp) k i j hi hj z⟩, fun ⟨k, z⟩ => ⟨k, pl_cg (fun i j x y w => (h i j x y w).mpr) k i j hi hj z⟩⟩
theorem dp_le {tm : Nat → Nat} {b : Nat} : ∀ k, dp tm b k ≤ k
  | 0 => Nat.le_refl _
  | k + 1 => by have := dp_le (tm := tm) (b := b) k; show dp tm b k + 1 - _ ≤ _; omega
theorem tk_2 (t : Nat) : tk t ≤ 2 := by unfold tk; split <;> (try split) <;> omega
theorem dp_dn {tm : Nat → Nat} {b n : Nat} (h : ∀ k, k < n → tk (tm (b + k)) ≤ dp tm b k) : ∀ d k, k + d = n → dp tm b k ≤ dp tm b n + d := by
  intro d
  induction d with
  | zero => intro k hk; have : k = n := by omega
            subst this; omega
  | succ d ih =>
    intro k hk
    have h1 := ih (k + 1) (by omega)
    have h2 := tk_2 (tm (b + k))
    have h3 := h k (by omega)
    have h4 : dp tm b (k + 1) = dp tm b k + 1 - tk (tm (b + k)) := rfl
    omega
theorem dp_4 {tm : Nat → Nat} {b n : Nat} (h : wf_ tm b n) (hn : n ≤ 8) {k : Nat} (hk : k ≤ n) : dp tm b k ≤ 4 := by
  rcases h.2 with h2 | h2
  · have : k = 0 := by omega
    subst this; exact Nat.zero_le _
  · have := dp_dn h.1 (n - k) k (by omega)
    have := dp_le (tm := tm) (b := b) k
    omega
section
variable {g_productions : Int32} {g_start : Int64} {g_sets g_states g_conflicts g_ready g_length g_tokens g_stuck g_scanned g_value g_place : Int32} {b_term b_size b_skipped b_left b_right b_width b_op b_constant b_rank b_grouping b_bTerm b_bSize b_bSkipped b_bLeft b_bWidth b_bOp b_bConstant : Nat → Int32} {b_follow b_ends b_first b_last : Nat → Int64} {b_none : Nat → Int32} {b_set : Nat → Int64} {b_leads b_apart : Nat → Int32} {b_state : Nat → Int64} {b_to b_look b_begins b_nullable b_act b_built b_leadTo b_text b_fits b_token b_stack b_worth : Nat → Int32} {post : Int32 → SY → Prop} {J8 : Int32 → Int32 → Int32 → Int64 → Int32 → Int32 → Int32 → Int32 → Int32 → Int32 → Int32 → Int32 → Int32 → Int32 → (Nat → Int32) → (Nat → Int32) → (Nat → Int32) → (Nat → Int32) → (Nat → Int32) → (Nat → Int32) → (Nat → Int32) → (Nat → Int32) → (Nat → Int32) → (Nat → Int32) → (Nat → Int32) → (Nat → Int32) → (Nat → Int32) → (Nat → Int32) → (Nat → Int32) → (Nat → Int32) → (Nat → Int32) → (Nat → Int64) → (Nat → Int64) → (Nat → Int64) → (Nat → Int64) → (Nat → Int32) → (Nat → Int64) → (Nat → Int32) → (Nat → Int32) → (Nat → Int64) → (Nat → Int32) → (Nat → Int32) → (Nat → Int32) → (Nat → Int32) → (Nat → Int32) → (Nat → Int32) → (Nat → Int32) → (Nat → Int32) → (Nat → Int32) → (Nat → Int32) → (Nat → Int32) → (Nat → Int32) → Prop}
theorem yr_44 {x1 : Int32} {t e a n k : Nat} (ht : t < 10) (he : e < 6) (hn : n ≤ 20) (hk : k < 32) (htx : ∀ k, ∃ l, l < 4 ∧ b_text k = nI l) (ek : b_bTerm k = nI t) (Q : Nat → (Nat → Int32) → Prop)
    (hQ : ∀ q f f', a ≤ q → q ≤ n → Q (q + 1) f → cs (nv b_text) t e q n f f' → Q q f')
    (H78 : t = 7 ∨ t = 8 → ∀ f, Q a f → ∃ n97 : Nat, wY_longest_97 post J8 x1 (nI a) (nI e) (nI k) g_productions g_start g_sets g_states g_conflicts g_ready (nI n) g_tokens g_stuck g_scanned g_value g_place n97 0 b_term b_size b_skipped b_left b_right b_width b_op b_constant b_rank b_grouping b_bTerm b_bSize b_bSkipped b_bLeft b_bWidth b_bOp b_bConstant b_follow b_ends b_first b_last b_none b_set b_leads b_apart b_state b_to b_look b_begins b_nullable b_act b_built b_leadTo b_text f b_token b_stack b_worth)
    (Hno : ¬ (t = 7 ∨ t = 8) → ∀ f, Q a f → J8 (nI (e + 1)) (nI (k + 1)) g_productions g_start g_sets g_states g_conflicts g_ready (nI n) g_tokens g_stuck g_scanned g_value g_place b_term b_size b_skipped b_left b_right b_width b_op b_constant b_rank b_grouping b_bTerm b_bSize b_bSkipped b_bLeft b_bWidth b_bOp b_bConstant b_follow b_ends b_first b_last b_none b_set b_leads b_apart b_state b_to b_look b_begins b_nullable b_act b_built b_leadTo b_text f b_token b_stack b_worth) :
    ∀ d p f, a + d = p → p ≤ n + 1 → Q p f → wY_longest_44 post J8 x1 (nI a) (nI e) (nI k) (d + 1) (nI p + (-1)) g_productions g_start g_sets g_states g_conflicts g_ready (nI n) g_tokens g_stuck g_scanned g_value g_place b_term b_size b_skipped b_left b_right b_width b_op b_constant b_rank b_grouping b_bTerm b_bSize b_bSkipped b_bLeft b_bWidth b_bOp b_bConstant b_follow b_ends b_first b_last b_none b_set b_leads b_apart b_state b_to b_look b_begins b_nullable b_act b_built b_leadTo b_text f b_token b_stack b_worth := by
  intro d
  induction d with
  | zero =>
    intro p f hp hpn hq
    have e1 : a = p := by omega
    subst e1
    have i32 : vp_in (nI k) 32 := vp_in_nI hk (by omega)
    have lt : nI a + (-1) < nI a := by
      cases a with
      | zero => decide
      | succ a => rw [pk_m1]; exact nI_lt (by omega) (by omega)
    refine br_t lt ⟨i32, ?_⟩
    rw [nI_clamp (show k < 2 ^ 31 by omega), ek]
    refine pk_eq t 7 (fun c => H78 (Or.inl c) f hq) (fun c => ⟨i32, pk_eq t 8 (fun c => H78 (Or.inr c) f hq) (fun c2 => nm_r (nI_1 e) (nm_r (nI_1 k) (Hno (fun z => z.elim c c2) f hq)))⟩)
  | succ d ih =>
    intro p f hp hpn hq
    obtain ⟨q, rfl⟩ : ∃ q, p = q + 1 := ⟨p - 1, by omega⟩
    rw [pk_m1]
    refine br_f (nI_nlt (by omega) (by omega)) ⟨vp_in_nI hk (by omega), ?_⟩
    rw [nI_clamp (show k < 2 ^ 31 by omega), ek]
    refine yc_ (b_fits := f) ht he (by omega) hn htx (fun f' h => ?_)
    dsimp only
    exact nm_e (ih q f' (by omega) (by omega) (hQ q f f' (by omega) (by omega) hq h))
theorem y97 {x1 x2 : Int32} {t e n k : Nat} {f0 : Nat → Int32} (ht : t = 7 ∨ t = 8) (he : e < 7) (hk : k < 32) (ek : b_bTerm k = nI t) (V : Nat → Prop)
    (hV : ∀ q, q < 441 → (V q ↔ (t = 7 ∧ (¬ f0 (3087 + q) = 0 ∨ q / 21 = q % 21)) ∨ (t = 8 ∧ (¬ f0 (441 * e + q) = 0 ∨ ¬ f0 (3087 + q) = 0))))
    (H : ∀ f : Nat → Int32, (∀ c, (∀ q, q < 441 → c ≠ 441 * e + q) → f c = f0 c) → (∀ q, q < 441 → (¬ f (441 * e + q) = 0 ↔ V q)) → J8 (nI (e + 1)) (nI (k + 1)) g_productions g_start g_sets g_states g_conflicts g_ready (nI n) g_tokens g_stuck g_scanned g_value g_place b_term b_size b_skipped b_left b_right b_width b_op b_constant b_rank b_grouping b_bTerm b_bSize b_bSkipped b_bLeft b_bWidth b_bOp b_bConstant b_follow b_ends b_first b_last b_none b_set b_leads b_apart b_state b_to b_look b_begins b_nullable b_act b_built b_leadTo b_text f b_token b_stack b_worth) :
    ∀ d q f, q + d = 441 → (∀ c, (∀ p, p < q → c ≠ 441 * e + p) → f c = f0 c) → (∀ p, p < q → (¬ f (441 * e + p) = 0 ↔ V p)) →
    wY_longest_97 post J8 x1 x2 (nI e) (nI k) g_productions g_start g_sets g_states g_conflicts g_ready (nI n) g_tokens g_stuck g_scanned g_value g_place (d + 1) (nI q) b_term b_size b_skipped b_left b_right b_width b_op b_constant b_rank b_grouping b_bTerm b_bSize b_bSkipped b_bLeft b_bWidth b_bOp b_bConstant b_follow b_ends b_first b_last b_none b_set b_leads b_apart b_state b_to b_look b_begins b_nullable b_act b_built b_leadTo b_text f b_token b_stack b_worth := by
  intro d
  induction d with
  | zero =>
    intro q f hq h1 h2
    have : q = 441 := by omega
    subst this
    exact pk_le 441 441 (fun _ => nm_r (nI_1 e) (nm_r (nI_1 k) (H f h1 h2))) (fun z => absurd z (by omega))
  | succ d ih =>
    intro q f hq h1 h2
    have i32 : vp_in (nI k) 32 := vp_in_nI hk (by omega)
    have ei : 441 * nI e + nI q = nI (441 * e + q) := by rw [show (441 : Int32) = nI 441 from rfl, pk_mul, nI_add]
    have f7 : f (3087 + q) = f0 (3087 + q) := h1 _ (fun p hp => by omega)
    have fe : f (441 * e + q) = f0 (441 * e + q) := h1 _ (fun p hp => by omega)
    have step : ∀ z, (¬ z = 0 ↔ V q) → wY_longest_97 post J8 x1 x2 (nI e) (nI k) g_productions g_start g_sets g_states g_conflicts g_ready (nI n) g_tokens g_stuck g_scanned g_value g_place (d + 1) (nI (q + 1)) b_term b_size b_skipped b_left b_right b_width b_op b_constant b_rank b_grouping b_bTerm b_bSize b_bSkipped b_bLeft b_bWidth b_bOp b_bConstant b_follow b_ends b_first b_last b_none b_set b_leads b_apart b_state b_to b_look b_begins b_nullable b_act b_built b_leadTo b_text (upd f (441 * e + q) z) b_token b_stack b_worth := by
      intro z hz
      refine ih (q + 1) _ (by omega) ?_ ?_
      · intro c hc
        rw [pk_un (hc q (by omega))]
        exact h1 c fun p hp => hc p (by omega)
      · intro p hp
        by_cases eq : p = q
        · subst eq; rw [pk_us]; exact hz
        · rw [pk_un (by omega)]; exact h2 p (by omega)
    have w133 : (t = 8 → f0 (441 * e + q) = 0) → wY_longest_133 post J8 (wY_longest_97 post J8 x1 x2 (nI e) (nI k) g_productions g_start g_sets g_states g_conflicts g_ready (nI n) g_tokens g_stuck g_scanned g_value g_place (d + 1)) x1 x2 (nI e) (nI k) (nI q) g_productions g_start g_sets g_states g_conflicts g_ready (nI n) g_tokens g_stuck g_scanned g_value g_place b_term b_size b_skipped b_left b_right b_width b_op b_constant b_rank b_grouping b_bTerm b_bSize b_bSkipped b_bLeft b_bWidth b_bOp b_bConstant b_follow b_ends b_first b_last b_none b_set b_leads b_apart b_state b_to b_look b_begins b_nullable b_act b_built b_leadTo b_text f b_token b_stack b_worth := by
      intro h8
      refine yp_ (e := 7) (i := 0) (j := 0) ?_
      have e7 : nI (441 * 7 + 21 * 0 + 0) + nI q = nI (3087 + q) := by rw [nI_add]
      rw [e7, ei, nI_clamp (by omega), nI_clamp (show 441 * e + q < 2 ^ 31 by omega), f7]
      have ie : vp_in (nI (441 * e + q)) 3528 := vp_in_nI (by omega) (by omega)
      refine ⟨vp_in_nI (by omega) (by omega), ?_⟩
      by_cases a : f0 (3087 + q) = 0
      · refine br_t a ⟨i32, ?_⟩
        rw [nI_clamp (show k < 2 ^ 31 by omega), ek]
        refine pk_eq t 7 (fun c => ⟨by decide, by decide, ?_⟩) (fun c => ⟨ie, nm_e (nm_r (nI_1 q) (step 0 ?_))⟩)
        · rw [show (21 : Int32) = nI 21 from rfl, pk_rem (by omega) (by omega) (by omega), pk_div (by omega) (by omega) (by omega)]
          refine pk_eq (q / 21) (q % 21) (fun e1 => ⟨ie, nm_e (nm_r (nI_1 q) (step 1 ?_))⟩) (fun e1 => ⟨ie, nm_e (nm_r (nI_1 q) (step 0 ?_))⟩)
          · exact ⟨fun _ => (hV q (by omega)).mpr (Or.inl ⟨c, Or.inr e1⟩), fun _ => by decide⟩
          · refine ⟨fun z => absurd rfl z, fun z => ?_⟩
            rcases (hV q (by omega)).mp z with ⟨_, y⟩ | ⟨y, _⟩
            · exact y.elim (fun w => absurd a w) (fun w => absurd w e1)
            · omega
        · refine ⟨fun z => absurd rfl z, fun z => ?_⟩
          rcases (hV q (by omega)).mp z with ⟨y, _⟩ | ⟨c8, y⟩
          · exact absurd y c
          · exact y.elim (fun w => absurd (h8 c8) w) (fun w => absurd a w)
      · refine br_f a ⟨ie, nm_e (nm_r (nI_1 q) (step 1 ?_))⟩
        refine ⟨fun _ => (hV q (by omega)).mpr ?_, fun _ => by decide⟩
        rcases ht with c | c
        · exact Or.inl ⟨c, Or.inl a⟩
        · exact Or.inr ⟨c, Or.inr a⟩
    refine pk_le 441 q (fun z => absurd z (by omega)) (fun _ => ⟨i32, ?_⟩)
    rw [nI_clamp (show k < 2 ^ 31 by omega), ek]
    refine pk_eq t 7 (fun c => w133 (fun z => by omega)) (fun c => ?_)
    rw [ei, nI_clamp (show 441 * e + q < 2 ^ 31 by omega), fe]
    refine ⟨vp_in_nI (by omega) (by omega), ?_⟩
    by_cases a : f0 (441 * e + q) = 0
    · exact br_t a (w133 fun _ => a)
    · refine br_f a (nm_r (nI_1 q) (ih (q + 1) f (by omega) (fun c hc => h1 c fun p hp => hc p (by omega)) (fun p hp => ?_)))
      by_cases eq : p = q
      · subst eq; rw [fe]; exact ⟨fun _ => (hV p (by omega)).mpr (Or.inr ⟨by omega, Or.inl a⟩), fun _ => a⟩
      · exact h2 p (by omega)
/-- one term -/
theorem yt_ {x1 : Int32} {t d e a n k : Nat} (ht : t < 10) (htk : tk t ≤ d) (hde : e = d - tk t) (hd : d ≤ 4) (hn : n ≤ 20) (han : a ≤ n) (hk : k < 32) (htx : ∀ k, ∃ l, l < 4 ∧ b_text k = nI l) (ek : b_bTerm k = nI t)
    {s : Nat → Nat → Nat → Prop} (hs : ∀ ε, ε < d → ∀ i j, a ≤ i → i ≤ j → j ≤ n → (ft b_fits ε i j ↔ s ε i j))
    (H : ∀ f : Nat → Int32, (∀ ε, ε < e + 1 → ∀ i j, a ≤ i → i ≤ j → j ≤ n → (ft f ε i j ↔ sm (nv b_text) t d s ε i j)) → J8 (nI (e + 1)) (nI (k + 1)) g_productions g_start g_sets g_states g_conflicts g_ready (nI n) g_tokens g_stuck g_scanned g_value g_place b_term b_size b_skipped b_left b_right b_width b_op b_constant b_rank b_grouping b_bTerm b_bSize b_bSkipped b_bLeft b_bWidth b_bOp b_bConstant b_follow b_ends b_first b_last b_none b_set b_leads b_apart b_state b_to b_look b_begins b_nullable b_act b_built b_leadTo b_text f b_token b_stack b_worth) :
    ∃ n44 : Nat, wY_longest_44 post J8 x1 (nI a) (nI e) (nI k) n44 (nI n) g_productions g_start g_sets g_states g_conflicts g_ready (nI n) g_tokens g_stuck g_scanned g_value g_place b_term b_size b_skipped b_left b_right b_width b_op b_constant b_rank b_grouping b_bTerm b_bSize b_bSkipped b_bLeft b_bWidth b_bOp b_bConstant b_follow b_ends b_first b_last b_none b_set b_leads b_apart b_state b_to b_look b_begins b_nullable b_act b_built b_leadTo b_text b_fits b_token b_stack b_worth := by
  have en : nI n = nI (n + 1) + (-1) := (pk_m1 n).symm
  by_cases c78 : t = 7 ∨ t = 8
  · have etk : tk t = 1 := by unfold tk; rw [if_neg (by omega), if_neg (by omega)]
    have ed : e = d - 1 := by omega
    refine ⟨n + 1 - a + 1, ?_⟩
    suffices this : wY_longest_44 post J8 x1 (nI a) (nI e) (nI k) (n + 1 - a + 1) (nI (n + 1) + (-1)) g_productions g_start g_sets g_states g_conflicts g_ready (nI n) g_tokens g_stuck g_scanned g_value g_place b_term b_size b_skipped b_left b_right b_width b_op b_constant b_rank b_grouping b_bTerm b_bSize b_bSkipped b_bLeft b_bWidth b_bOp b_bConstant b_follow b_ends b_first b_last b_none b_set b_leads b_apart b_state b_to b_look b_begins b_nullable b_act b_built b_leadTo b_text b_fits b_token b_stack b_worth by
      rw [← en] at this; exact this
    refine yr_44 ht (by omega : e < 6) hn hk htx ek (fun p f => (∀ ε i j, ε < 7 → i ≤ 20 → j ≤ 20 → f (441 * ε + 21 * i + j) = b_fits (441 * ε + 21 * i + j)) ∧ (∀ i j, p ≤ i → i ≤ j → j ≤ n → (ft f 7 i j ↔ pl (fun i j => ft b_fits e i j) i j))) ?_ ?_ (fun z => absurd c78 z) (n + 1 - a) (n + 1) b_fits (by omega) (by omega) ⟨fun _ _ _ _ _ _ => rfl, fun i j x y z => absurd x (by omega)⟩
    · rintro q f f' hq1 hq2 ⟨g1, g2⟩ ⟨c1, c2⟩
      rw [if_pos c78] at c1 c2
      refine ⟨fun ε i j x y z => ?_, fun i j x y z => ?_⟩
      · rw [c1 _ (fun j' _ _ => by omega) (fun w => by omega)]; exact g1 ε i j x y z
      · by_cases ei : i = q
        · subst ei
          refine (c2 j y z).trans ?_
          unfold cv
          rw [if_neg (by omega), if_neg (by omega), if_neg (by omega), if_neg (by omega)]
          rw [pl_un]
          constructor
          · rintro ⟨m, u, v, w, r⟩
            refine ⟨m, by omega, v, ?_, r.imp id (fun y => (g2 m j (by omega) (by omega) z).mp y)⟩
            show ¬ b_fits _ = 0
            rw [← g1 e i m (by omega) (by omega) (by omega)]; exact w
          · rintro ⟨m, u, v, w, r⟩
            refine ⟨m, by omega, v, ?_, r.imp id (fun y => (g2 m j (by omega) (by omega) z).mpr y)⟩
            show ¬ f _ = 0
            rw [g1 e i m (by omega) (by omega) (by omega)]; exact w
        · rw [← g2 i j (by omega) y z]
          unfold ft
          rw [c1 _ (fun j' _ _ => by omega) (fun w => by omega)]
    · rintro - f ⟨g1, g2⟩
      refine ⟨442, y97 (f0 := f) c78 (by omega) hk ek (fun q => (t = 7 ∧ (¬ f (3087 + q) = 0 ∨ q / 21 = q % 21)) ∨ (t = 8 ∧ (¬ f (441 * e + q) = 0 ∨ ¬ f (3087 + q) = 0))) (fun _ _ => Iff.rfl) (fun f' k1 k2 => H f' ?_) 441 0 f (by omega) (fun _ _ => rfl) (fun p hp => absurd hp (by omega))⟩
      intro ε hε i j hi hij hj
      by_cases ee : ε = e
      · subst ee
        have k3 := k2 (21 * i + j) (by omega)
        rw [← Nat.add_assoc] at k3
        refine k3.trans ?_
        have d1 : (21 * i + j) / 21 = i := by omega
        have d2 : (21 * i + j) % 21 = j := by omega
        have f7 : ¬ f (3087 + (21 * i + j)) = 0 ↔ pl (s ε) i j := by
          rw [show 3087 + (21 * i + j) = 441 * 7 + 21 * i + j by omega]
          exact (g2 i j hi hij hj).trans (pl_cong (fun i j x y z => hs ε (by omega) i j x y z) hi hj)
        have fe : ¬ f (441 * ε + 21 * i + j) = 0 ↔ s ε i j := by
          rw [g1 ε i j (by omega) (by omega) (by omega)]; exact hs ε (by omega) i j hi hij hj
        rw [d1, d2, f7, fe]
        unfold sm us
        rcases c78 with c | c
        · rw [if_neg (by omega), if_neg (by omega), if_neg (by omega), if_pos c]
          simp only [c, show ε = d - 1 by omega, if_true]
          simp only [true_and, show ¬ (7 = 8) by decide, false_and, or_false]
          exact or_comm
        · rw [if_neg (by omega), if_neg (by omega), if_neg (by omega), if_neg (by omega), if_pos c]
          simp only [c, show ε = d - 1 by omega, if_true]
          simp only [true_and, show ¬ (8 = 7) by decide, false_and, false_or]
      · have : sm (nv b_text) t d s ε = s ε := by
          unfold sm us
          rw [if_neg (by omega), if_neg (by omega), if_neg (by omega)]
          split
          · exact if_neg (by omega)
          · rw [if_pos (by omega)]; exact if_neg (by omega)
        rw [this, ← hs ε (by omega) i j hi hij hj]
        unfold ft
        rw [k1 _ (fun q hq => by omega), g1 ε i j (by omega) (by omega) (by omega)]
  · refine ⟨n + 1 - a + 1, ?_⟩
    have e5 : (t < 5 → e = d) ∧ (t = 5 ∨ t = 6 → e + 2 = d) ∧ (t = 9 → e + 1 = d) := by
      unfold tk at hde htk
      refine ⟨fun z => ?_, fun z => ?_, fun z => ?_⟩
      · rw [if_pos z] at hde; omega
      · rw [if_neg (by omega), if_pos (by omega)] at hde htk; omega
      · rw [if_neg (by omega), if_neg (by omega)] at hde htk; omega
    suffices this : wY_longest_44 post J8 x1 (nI a) (nI e) (nI k) (n + 1 - a + 1) (nI (n + 1) + (-1)) g_productions g_start g_sets g_states g_conflicts g_ready (nI n) g_tokens g_stuck g_scanned g_value g_place b_term b_size b_skipped b_left b_right b_width b_op b_constant b_rank b_grouping b_bTerm b_bSize b_bSkipped b_bLeft b_bWidth b_bOp b_bConstant b_follow b_ends b_first b_last b_none b_set b_leads b_apart b_state b_to b_look b_begins b_nullable b_act b_built b_leadTo b_text b_fits b_token b_stack b_worth by
      rw [← en] at this; exact this
    refine yr_44 ht (by omega : e < 6) hn hk htx ek (fun p f => (∀ ε i j, ε < 7 → i ≤ 20 → j ≤ 20 → (ε ≠ e ∨ i < p) → f (441 * ε + 21 * i + j) = b_fits (441 * ε + 21 * i + j)) ∧ (∀ i j, p ≤ i → i ≤ j → j ≤ n → (ft f e i j ↔ cv (nv b_text) b_fits t e i j))) ?_ (fun z => absurd z c78) ?_ (n + 1 - a) (n + 1) b_fits (by omega) (by omega) ⟨fun _ _ _ _ _ _ _ => rfl, fun i j x y z => absurd x (by omega)⟩
    · rintro q f f' hq1 hq2 ⟨g1, g2⟩ ⟨c1, c2⟩
      rw [if_neg c78] at c1 c2
      refine ⟨fun ε i j x y z w => ?_, fun i j x y z => ?_⟩
      · rw [c1 _ (fun j' _ _ => by omega) (fun _ j' _ _ => by omega)]; exact g1 ε i j x y z (by omega)
      · by_cases ei : i = q
        · subst ei
          refine (c2 j y z).trans ?_
          have g : ∀ ε p q, ε < 7 → p ≤ 20 → q ≤ 20 → (ε ≠ e ∨ p < i + 1) → (ft f ε p q ↔ ft b_fits ε p q) := by
            intro ε p q u v w r
            unfold ft
            rw [g1 ε p q u v w r]
          unfold cv
          by_cases q0 : t < 5
          · rw [if_pos q0, if_pos q0]
          rw [if_neg q0, if_neg q0]
          by_cases q5 : t = 5
          · rw [if_pos q5, if_pos q5]
            refine ⟨fun ⟨m, u, v, w, r⟩ => ⟨m, u, v, ?_, ?_⟩, fun ⟨m, u, v, w, r⟩ => ⟨m, u, v, ?_, ?_⟩⟩
            · exact (g _ _ _ (by omega) (by omega) (by omega) (by omega)).mp w
            · exact (g _ _ _ (by omega) (by omega) (by omega) (by omega)).mp r
            · exact (g _ _ _ (by omega) (by omega) (by omega) (by omega)).mpr w
            · exact (g _ _ _ (by omega) (by omega) (by omega) (by omega)).mpr r
          rw [if_neg q5, if_neg q5]
          by_cases q6 : t = 6
          · rw [if_pos q6, if_pos q6, g _ _ _ (by omega) (by omega) (by omega) (by omega), g _ _ _ (by omega) (by omega) (by omega) (by omega)]
          rw [if_neg q6, if_neg q6, if_pos (by omega), if_pos (by omega), g _ _ _ (by omega) (by omega) (by omega) (by omega)]
        · rw [← g2 i j (by omega) y z]
          unfold ft
          rw [c1 _ (fun j' _ _ => by omega) (fun _ j' _ _ => by omega)]
    · rintro - f ⟨g1, g2⟩
      refine H f ?_
      intro ε hε i j hi hij hj
      by_cases ee : ε = e
      · subst ee
        refine (g2 i j hi hij hj).trans ?_
        unfold cv sm us
        by_cases q0 : t < 5
        · rw [if_pos q0, if_pos q0, if_pos (e5.1 q0)]
        rw [if_neg q0, if_neg q0]
        by_cases q5 : t = 5
        · have := e5.2.1 (Or.inl q5)
          rw [if_pos q5, if_pos q5, if_pos (by omega)]
          refine ⟨fun ⟨m, u, v, w, r⟩ => ⟨m, u, v, ?_, ?_⟩, fun ⟨m, u, v, w, r⟩ => ⟨m, u, v, ?_, ?_⟩⟩
          · rw [show d - 2 = ε by omega]; exact (hs _ (by omega) _ _ hi u (by omega)).mp w
          · rw [show d - 1 = ε + 1 by omega]; exact (hs _ (by omega) _ _ (by omega) v hj).mp r
          · rw [show d - 2 = ε by omega] at w; exact (hs _ (by omega) _ _ hi u (by omega)).mpr w
          · rw [show d - 1 = ε + 1 by omega] at r; exact (hs _ (by omega) _ _ (by omega) v hj).mpr r
        rw [if_neg q5, if_neg q5]
        by_cases q6 : t = 6
        · have := e5.2.1 (Or.inr q6)
          rw [if_pos q6, if_pos q6, if_pos (by omega), show d - 2 = ε by omega, show d - 1 = ε + 1 by omega, hs _ (by omega) _ _ hi hij hj, hs _ (by omega) _ _ hi hij hj]
        have := e5.2.2 (by omega)
        rw [if_neg q6, if_neg q6, if_pos (by omega), if_neg (by omega), if_neg (by omega), if_pos (by omega), show d - 1 = ε by omega, hs _ (by omega) _ _ hi hij hj]
      · have : sm (nv b_text) t d s ε = s ε := by
          unfold sm us
          by_cases q0 : t < 5
          · rw [if_pos q0, if_neg (by have := e5.1 q0; omega)]
          rw [if_neg q0]
          by_cases q5 : t = 5
          · rw [if_pos q5, if_neg (by have := e5.2.1 (Or.inl q5); omega)]
          rw [if_neg q5]
          by_cases q6 : t = 6
          · rw [if_pos q6, if_neg (by have := e5.2.1 (Or.inr q6); omega)]
          rw [if_neg q6, if_neg (by omega), if_neg (by omega), if_neg (by have := e5.2.2 (by omega); omega)]
        rw [this]
        rw [← hs ε (by omega) i j hi hij hj]
        unfold ft
        rw [g1 ε i j (by omega) (by omega) (by omega) (Or.inl ee)]
end
