/-! classes of sets: the pure picture, and the component -/
def dst (st : Nat → Int32) (s l : Nat) : Nat := (st (4 * s + l)).toNatClampNeg
def Eq_ (st mt : Nat → Int32) : Nat → Nat → Nat → Prop
  | 0, s, t => mt s = mt t
  | k + 1, s, t => Eq_ st mt k s t ∧ ∀ l, l < 4 → (st (4 * s + l) = -1 ↔ st (4 * t + l) = -1) ∧ (st (4 * s + l) ≠ -1 → Eq_ st mt k (dst st s l) (dst st t l))
theorem Eq_r {st mt : Nat → Int32} : ∀ k s, Eq_ st mt k s s
  | 0, _ => rfl
  | k + 1, s => ⟨Eq_r k s, fun l _ => ⟨Iff.rfl, fun _ => Eq_r k _⟩⟩
theorem Eq_s {st mt : Nat → Int32} : ∀ k s t, Eq_ st mt k s t → Eq_ st mt k t s
  | 0, _, _, h => Eq.symm h
  | k + 1, s, t, h => ⟨Eq_s k s t h.1, fun l hl => ⟨(h.2 l hl).1.symm, fun z => Eq_s k _ _ ((h.2 l hl).2 (fun y => z ((h.2 l hl).1.mp y)))⟩⟩
theorem Eq_t {st mt : Nat → Int32} : ∀ k s t u, Eq_ st mt k s t → Eq_ st mt k t u → Eq_ st mt k s u
  | 0, _, _, _, h, g => Eq.trans h g
  | k + 1, s, t, u, h, g => ⟨Eq_t k s t u h.1 g.1, fun l hl => ⟨(h.2 l hl).1.trans (g.2 l hl).1, fun z => Eq_t k _ _ _ ((h.2 l hl).2 z) ((g.2 l hl).2 (fun y => z ((h.2 l hl).1.mpr y)))⟩⟩
noncomputable def cP (P : Nat → Prop) : Nat → Nat
  | 0 => 0
  | n + 1 => cP P n + @ite Nat (P n) (Classical.propDecidable _) 1 0
theorem cP_t {P : Nat → Prop} {n : Nat} (h : P n) : cP P (n + 1) = cP P n + 1 := by rw [cP, if_pos h]
theorem cP_f {P : Nat → Prop} {n : Nat} (h : ¬ P n) : cP P (n + 1) = cP P n := by rw [cP, if_neg h, Nat.add_zero]
theorem cP_le {P : Nat → Prop} : ∀ n, cP P n ≤ n
  | 0 => Nat.le_refl _
  | n + 1 => by
    have := cP_le (P := P) n
    by_cases h : P n
    · rw [cP_t h]; omega
    · rw [cP_f h]; omega
theorem cP_m {P Q : Nat → Prop} : ∀ n, (∀ k, k < n → P k → Q k) → cP P n ≤ cP Q n
  | 0, _ => Nat.le_refl _
  | n + 1, h => by
    have := cP_m n (fun k hk => h k (by omega))
    by_cases hp : P n
    · rw [cP_t hp, cP_t (h n (by omega) hp)]; omega
    · rw [cP_f hp]
      by_cases hq : Q n
      · rw [cP_t hq]; omega
      · rw [cP_f hq]; omega
theorem cP_e {P Q : Nat → Prop} : ∀ n, (∀ k, k < n → P k → Q k) → cP P n = cP Q n → ∀ k, k < n → Q k → P k
  | 0, _, _, k, hk, _ => absurd hk (Nat.not_lt_zero _)
  | n + 1, h, e, k, hk, hq => by
    have hm := cP_m n (fun k hk => h k (by omega))
    have ih := cP_e n (fun k hk => h k (by omega))
    by_cases hp : P n
    · have hqn := h n (by omega) hp
      rw [cP_t hp, cP_t hqn] at e
      by_cases z : k = n
      · subst z; exact hp
      · exact ih (by omega) k (by omega) hq
    · by_cases hqn : Q n
      · rw [cP_f hp, cP_t hqn] at e; omega
      · rw [cP_f hp, cP_f hqn] at e
        by_cases z : k = n
        · subst z; exact absurd hq hqn
        · exact ih e k (by omega) hq
theorem cP_c {P Q : Nat → Prop} {n : Nat} (h : ∀ k, k < n → (P k ↔ Q k)) : cP P n = cP Q n := Nat.le_antisymm (cP_m n fun k hk => (h k hk).mp) (cP_m n fun k hk => (h k hk).mpr)
def Fst (st mt : Nat → Int32) (k s : Nat) : Prop := ∀ t, t < s → ¬ Eq_ st mt k t s
noncomputable def Nc (st mt : Nat → Int32) (c k : Nat) : Nat := cP (Fst st mt k) c
theorem Nc_m {st mt : Nat → Int32} {c k : Nat} : Nc st mt c k ≤ Nc st mt c (k + 1) := cP_m c (fun s _ h t ht z => h t ht z.1)
theorem Nc_1 {st mt : Nat → Int32} {c k : Nat} (hc : 1 ≤ c) : 1 ≤ Nc st mt c k := by
  have h0 : cP (fun s => s = 0) c ≤ cP (Fst st mt k) c := cP_m c (fun s _ h t ht => by omega)
  have h1 : ∀ n, 1 ≤ n → 1 ≤ cP (fun s => s = 0) n := by
    intro n
    induction n with
    | zero => intro h; omega
    | succ n ih =>
      intro _
      by_cases z : n = 0
      · subst z; rw [cP_t (P := fun s => s = 0) rfl]; omega
      · rw [cP_f (P := fun s => s = 0) z]; exact ih (by omega)
  have := h1 c hc
  unfold Nc; omega
theorem Nc_c {st mt : Nat → Int32} {c k : Nat} : Nc st mt c k ≤ c := cP_le c
/-- the same number of classes: the same classes -/
theorem Nc_e {st mt : Nat → Int32} {c k : Nat} (h : Nc st mt c (k + 1) = Nc st mt c k) {s t : Nat} (hs : s < c) (ht : t < c) : Eq_ st mt k s t → Eq_ st mt (k + 1) s t := by
  intro hE
  have fe := cP_e c (fun s _ (h : Fst st mt k s) t ht z => h t ht z.1) h.symm
  have least : ∀ s, s < c → ∃ a, a ≤ s ∧ Eq_ st mt (k + 1) a s ∧ Fst st mt (k + 1) a := by
    intro s _
    obtain ⟨a, h1, h2⟩ := pk_least (fun a => Eq_ st mt (k + 1) a s) ⟨s, Eq_r _ s⟩
    have hle : a ≤ s := by
      rcases Nat.lt_or_ge s a with z | z
      · exact absurd (Eq_r _ s) (h2 s z)
      · exact z
    exact ⟨a, hle, h1, fun t ht z => h2 t ht (Eq_t _ _ _ _ z h1)⟩
  obtain ⟨a, a1, a2, a3⟩ := least s hs
  obtain ⟨b, b1, b2, b3⟩ := least t ht
  have fa := fe a (by omega) a3
  have fb := fe b (by omega) b3
  have hab : Eq_ st mt k a b := Eq_t k _ _ _ a2.1 (Eq_t k _ _ _ hE (Eq_s k _ _ b2.1))
  have : a = b := by
    rcases Nat.lt_trichotomy a b with z | z | z
    · exact absurd hab (fb a z)
    · exact z
    · exact absurd (Eq_s k _ _ hab) (fa b z)
  subst this
  exact Eq_t _ _ _ _ (Eq_s _ _ _ a2) b2
/-- the round that brings nothing new -/
theorem Nc_end {st mt : Nat → Int32} {c : Nat} (hc : 1 ≤ c) (h61 : c ≤ 61) : ∃ K, 1 ≤ K ∧ K ≤ 61 ∧ Nc st mt c (K + 1) = Nc st mt c K ∧ ∀ k, 1 ≤ k → k < K → Nc st mt c (k + 1) ≠ Nc st mt c k := by
  have ex : ∃ K, 1 ≤ K ∧ Nc st mt c (K + 1) = Nc st mt c K := by
    refine Classical.byContradiction (fun hno => ?_)
    have gr : ∀ k, 1 ≤ k → k ≤ Nc st mt c k := by
      intro k
      induction k with
      | zero => intro h; omega
      | succ k ih =>
        intro _
        by_cases z : k = 0
        · subst z; exact Nc_1 hc
        · have h1 := ih (by omega)
          have h2 := Nc_m (st := st) (mt := mt) (c := c) (k := k)
          have h3 : Nc st mt c (k + 1) ≠ Nc st mt c k := fun e => hno ⟨k, by omega, e⟩
          omega
    have h1 := gr 62 (by omega)
    have h2 := Nc_c (st := st) (mt := mt) (c := c) (k := 62)
    omega
  obtain ⟨K, ⟨k1, k2⟩, k3⟩ := pk_least _ ex
  have gr : ∀ k, 1 ≤ k → k ≤ K → k ≤ Nc st mt c k := by
    intro k
    induction k with
    | zero => intro h; omega
    | succ k ih =>
      intro _ hk
      by_cases z : k = 0
      · subst z; exact Nc_1 hc
      · have h1 := ih (by omega) (by omega)
        have h2 := Nc_m (st := st) (mt := mt) (c := c) (k := k)
        have h3 : Nc st mt c (k + 1) ≠ Nc st mt c k := fun e => k3 k (by omega) ⟨by omega, e⟩
        omega
  have h1 := gr K k1 (Nat.le_refl _)
  have h2 := Nc_c (st := st) (mt := mt) (c := c) (k := K)
  exact ⟨K, k1, by omega, k2, fun k hk1 hk e => k3 k hk ⟨hk1, e⟩⟩
/-- steps and matches are within -/
def stO (st : Nat → Int32) (c : Nat) : Prop := ∀ s l, s < c → l < 4 → st (4 * s + l) = -1 ∨ ∃ k, k < c ∧ st (4 * s + l) = nI k
theorem dst_c {st : Nat → Int32} {c s l : Nat} (h : stO st c) (hc : c ≤ 61) (hs : s < c) (hl : l < 4) (hn : st (4 * s + l) ≠ -1) : dst st s l < c ∧ st (4 * s + l) = nI (dst st s l) := by
  rcases h s l hs hl with e | ⟨k, hk, e⟩
  · exact absurd e hn
  · unfold dst; rw [e, nI_clamp (by omega)]; exact ⟨hk, rfl⟩
section
variable {f_productionCount f_textLength f_anythingBuilt f_tokenCount f_parseValue f_parsePlace : Int32} {a_ruleTerms a_ruleLengths a_skips a_grammar a_ranks a_groupings a_text a_heads a_tails a_empties a_placeLetters a_followers a_ruleEnds : Nat → Int32} {a_sets : Nat → Int64} {a_steps a_classes a_finerClasses : Nat → Int32} {a_states : Nat → Int64} {a_moves a_begins a_lookaheads a_builtCounts a_builtSteps a_builtMatches a_builtSkips a_builtGrammar a_builtMoves a_builtActions a_tokenRules a_tokenBegins a_tokenEnds a_stackStates a_stackValues : Nat → Int32} {st mt : Nat → Int32} {c : Nat}
theorem xtw_19 {post : Int32 → Prop} {s t k : Nat} (hc : c ≤ 61) (hO : stO st c) (hst : ∀ j, j < 4 * c → a_steps j = st j) (hcl : ∀ s t, s < c → t < c → (a_classes s = a_classes t ↔ Eq_ st mt k s t)) (hs : s < c) (ht : t < c)
    (h1 : (∀ l, l < 4 → (st (4 * s + l) = -1 ↔ st (4 * t + l) = -1) ∧ (st (4 * s + l) ≠ -1 → Eq_ st mt k (dst st s l) (dst st t l))) → post 1)
    (h0 : (¬ ∀ l, l < 4 → (st (4 * s + l) = -1 ↔ st (4 * t + l) = -1) ∧ (st (4 * s + l) ≠ -1 → Eq_ st mt k (dst st s l) (dst st t l))) → post 0) :
    ∀ d l, l + d = 4 → (∀ m, m < l → (st (4 * s + m) = -1 ↔ st (4 * t + m) = -1) ∧ (st (4 * s + m) ≠ -1 → Eq_ st mt k (dst st s m) (dst st t m))) → wX_areTwins_19 post (nI s) (nI t) f_productionCount f_textLength f_anythingBuilt f_tokenCount f_parseValue f_parsePlace a_ruleTerms a_ruleLengths a_skips a_grammar a_ranks a_groupings a_text a_heads a_tails a_empties a_placeLetters a_followers a_ruleEnds a_sets a_steps a_classes a_finerClasses a_states a_moves a_begins a_lookaheads a_builtCounts a_builtSteps a_builtMatches a_builtSkips a_builtGrammar a_builtMoves a_builtActions a_tokenRules a_tokenBegins a_tokenEnds a_stackStates a_stackValues (d + 1) (nI l) := by
  intro d
  induction d with
  | zero =>
    intro l hl h
    have : l = 4 := by omega
    subst this
    exact pk_le 4 4 (fun _ => h1 h) (fun z => absurd z (by omega))
  | succ d ih =>
    intro l hl h
    have next : (st (4 * s + l) = -1 ↔ st (4 * t + l) = -1) ∧ (st (4 * s + l) ≠ -1 → Eq_ st mt k (dst st s l) (dst st t l)) → wX_areTwins_19 post (nI s) (nI t) f_productionCount f_textLength f_anythingBuilt f_tokenCount f_parseValue f_parsePlace a_ruleTerms a_ruleLengths a_skips a_grammar a_ranks a_groupings a_text a_heads a_tails a_empties a_placeLetters a_followers a_ruleEnds a_sets a_steps a_classes a_finerClasses a_states a_moves a_begins a_lookaheads a_builtCounts a_builtSteps a_builtMatches a_builtSkips a_builtGrammar a_builtMoves a_builtActions a_tokenRules a_tokenBegins a_tokenEnds a_stackStates a_stackValues (d + 1) (nI (l + 1)) := by
      intro hh
      refine ih (l + 1) (by omega) (fun m hm => ?_)
      by_cases e : m = l
      · subst e; exact hh
      · exact h m (by omega)
    have stop : ¬ ((st (4 * s + l) = -1 ↔ st (4 * t + l) = -1) ∧ (st (4 * s + l) ≠ -1 → Eq_ st mt k (dst st s l) (dst st t l))) → post 0 := fun hh => h0 fun hall => hh (hall l (by omega))
    refine pk_le 4 l (fun z => absurd z (by omega)) (fun _ => ?_)
    rw [show nI s * 4 + nI l = nI (4 * s + l) from by rw [show (4 : Int32) = nI 4 from rfl, pk_mul, nI_add]; congr 1; omega, show nI t * 4 + nI l = nI (4 * t + l) from by rw [show (4 : Int32) = nI 4 from rfl, pk_mul, nI_add]; congr 1; omega, nI_clamp (show 4 * s + l < 2 ^ 31 by omega), nI_clamp (show 4 * t + l < 2 ^ 31 by omega), hst _ (show 4 * s + l < 4 * c by omega), hst _ (show 4 * t + l < 4 * c by omega)]
    refine ⟨vp_in_nI (by omega) (by omega), nm_e ⟨vp_in_nI (by omega) (by omega), nm_e ?_⟩⟩
    have w60 : st (4 * s + l) = -1 ∨ st (4 * t + l) = -1 → wX_areTwins_60 post (wX_areTwins_19 post (nI s) (nI t) f_productionCount f_textLength f_anythingBuilt f_tokenCount f_parseValue f_parsePlace a_ruleTerms a_ruleLengths a_skips a_grammar a_ranks a_groupings a_text a_heads a_tails a_empties a_placeLetters a_followers a_ruleEnds a_sets a_steps a_classes a_finerClasses a_states a_moves a_begins a_lookaheads a_builtCounts a_builtSteps a_builtMatches a_builtSkips a_builtGrammar a_builtMoves a_builtActions a_tokenRules a_tokenBegins a_tokenEnds a_stackStates a_stackValues (d + 1)) (nI s) (nI t) (nI l) (st (4 * s + l)) (st (4 * t + l)) f_productionCount f_textLength f_anythingBuilt f_tokenCount f_parseValue f_parsePlace a_ruleTerms a_ruleLengths a_skips a_grammar a_ranks a_groupings a_text a_heads a_tails a_empties a_placeLetters a_followers a_ruleEnds a_sets a_steps a_classes a_finerClasses a_states a_moves a_begins a_lookaheads a_builtCounts a_builtSteps a_builtMatches a_builtSkips a_builtGrammar a_builtMoves a_builtActions a_tokenRules a_tokenBegins a_tokenEnds a_stackStates a_stackValues := by
      intro ho
      refine br_c (fun e => nm_r (nI_1 l) (next ?_)) (fun e => stop ?_)
      · refine ⟨by rw [e], fun hn => ?_⟩
        rcases ho with z | z
        · exact absurd z hn
        · exact absurd (e.trans z) hn
      · intro hh
        rcases ho with z | z
        · exact e (z.trans (hh.1.mp z).symm)
        · exact e ((hh.1.mpr z).trans z.symm)
    refine br_c (fun e => w60 (Or.inl e)) (fun e => br_c (fun e2 => w60 (Or.inr e2)) (fun e2 => ?_))
    obtain ⟨q1, q2⟩ := dst_c hO hc hs (show l < 4 by omega) e
    obtain ⟨q3, q4⟩ := dst_c hO hc ht (show l < 4 by omega) e2
    rw [q2, q4, nI_clamp (show dst st s l < 2 ^ 31 by omega), nI_clamp (show dst st t l < 2 ^ 31 by omega)]
    refine ⟨vp_in_nI (by omega) (by omega), vp_in_nI (by omega) (by omega), br_c (fun g => nm_r (nI_1 l) (next ⟨⟨fun z => absurd z e, fun z => absurd z e2⟩, fun _ => (hcl _ _ q1 q3).mp g⟩)) (fun g => stop (fun hh => g ((hcl _ _ q1 q3).mpr (hh.2 e))))⟩
theorem xtw {post : Int32 → Prop} {s t k : Nat} (hc : c ≤ 61) (hO : stO st c) (hst : ∀ j, j < 4 * c → a_steps j = st j) (hcl : ∀ s t, s < c → t < c → (a_classes s = a_classes t ↔ Eq_ st mt k s t)) (hs : s < c) (ht : t < c)
    (h1 : Eq_ st mt (k + 1) s t → post 1) (h0 : ¬ Eq_ st mt (k + 1) s t → post 0) : wpX_areTwins post (f_productionCount, f_textLength, f_anythingBuilt, f_tokenCount, f_parseValue, f_parsePlace, a_ruleTerms, a_ruleLengths, a_skips, a_grammar, a_ranks, a_groupings, a_text, a_heads, a_tails, a_empties, a_placeLetters, a_followers, a_ruleEnds, a_sets, a_steps, a_classes, a_finerClasses, a_states, a_moves, a_begins, a_lookaheads, a_builtCounts, a_builtSteps, a_builtMatches, a_builtSkips, a_builtGrammar, a_builtMoves, a_builtActions, a_tokenRules, a_tokenBegins, a_tokenEnds, a_stackStates, a_stackValues) (nI s) (nI t) := by
  unfold wpX_areTwins
  dsimp only
  rw [nI_clamp (show s < 2 ^ 31 by omega), nI_clamp (show t < 2 ^ 31 by omega)]
  refine ⟨vp_in_nI (by omega) (by omega), vp_in_nI (by omega) (by omega), br_c (fun e => ⟨5, ?_⟩) (fun e => h0 fun z => e ((hcl s t hs ht).mpr z.1))⟩
  have e' := (hcl s t hs ht).mp e
  exact xtw_19 hc hO hst hcl hs ht (fun hh => h1 ⟨e', hh⟩) (fun hh => h0 fun z => hh z.2) 4 0 (by omega) (fun m hm => absurd hm (Nat.not_lt_zero _))
theorem xft {post : Int32 → Prop} {s k : Nat} (hc : c ≤ 61) (hO : stO st c) (hst : ∀ j, j < 4 * c → a_steps j = st j) (hcl : ∀ s t, s < c → t < c → (a_classes s = a_classes t ↔ Eq_ st mt k s t)) (hs : s < c)
    (h1 : ∀ t, t < s → Eq_ st mt (k + 1) t s → post (nI t)) (h0 : Fst st mt (k + 1) s → post (nI s)) : wpX_firstTwin post (f_productionCount, f_textLength, f_anythingBuilt, f_tokenCount, f_parseValue, f_parsePlace, a_ruleTerms, a_ruleLengths, a_skips, a_grammar, a_ranks, a_groupings, a_text, a_heads, a_tails, a_empties, a_placeLetters, a_followers, a_ruleEnds, a_sets, a_steps, a_classes, a_finerClasses, a_states, a_moves, a_begins, a_lookaheads, a_builtCounts, a_builtSteps, a_builtMatches, a_builtSkips, a_builtGrammar, a_builtMoves, a_builtActions, a_tokenRules, a_tokenBegins, a_tokenEnds, a_stackStates, a_stackValues) (nI s) := by
  have loop : ∀ d o, o + d = s → (∀ t, t < o → ¬ Eq_ st mt (k + 1) t s) → wX_firstTwin_2 post (nI s) f_productionCount f_textLength f_anythingBuilt f_tokenCount f_parseValue f_parsePlace a_ruleTerms a_ruleLengths a_skips a_grammar a_ranks a_groupings a_text a_heads a_tails a_empties a_placeLetters a_followers a_ruleEnds a_sets a_steps a_classes a_finerClasses a_states a_moves a_begins a_lookaheads a_builtCounts a_builtSteps a_builtMatches a_builtSkips a_builtGrammar a_builtMoves a_builtActions a_tokenRules a_tokenBegins a_tokenEnds a_stackStates a_stackValues (d + 1) (nI o) := by
    intro d
    induction d with
    | zero =>
      intro o ho h
      have : o = s := by omega
      subst this
      exact pk_le 61 o (fun _ => h0 h) (fun _ => pk_le o o (fun _ => h0 h) (fun z => absurd z (by omega)))
    | succ d ih =>
      intro o ho h
      refine pk_le 61 o (fun z => absurd z (by omega)) (fun _ => pk_le s o (fun z => absurd z (by omega)) (fun _ => xtw hc hO hst hcl (by omega) hs (fun e => br_f (by decide) (h1 o (by omega) e)) (fun e => br_t rfl (nm_r (nI_1 o) (ih (o + 1) (by omega) (fun t ht => ?_))))))
      by_cases z : t = o
      · subst z; exact e
      · exact h t (by omega)
  exact ⟨s + 1, loop s 0 (by omega) (fun t ht => absurd ht (Nat.not_lt_zero _))⟩
theorem xrf {post : Int32 → SX → Prop} {k : Nat} (hc : c ≤ 61) (hO : stO st c) (hst : ∀ j, j < 4 * c → a_steps j = st j) (hcl : ∀ s t, s < c → t < c → (a_classes s = a_classes t ↔ Eq_ st mt k s t))
    (H : ∀ cl fi : Nat → Int32, (∀ s t, s < c → t < c → (cl s = cl t ↔ Eq_ st mt (k + 1) s t)) → post (nI (Nc st mt c (k + 1))) (f_productionCount, f_textLength, f_anythingBuilt, f_tokenCount, f_parseValue, f_parsePlace, a_ruleTerms, a_ruleLengths, a_skips, a_grammar, a_ranks, a_groupings, a_text, a_heads, a_tails, a_empties, a_placeLetters, a_followers, a_ruleEnds, a_sets, a_steps, cl, fi, a_states, a_moves, a_begins, a_lookaheads, a_builtCounts, a_builtSteps, a_builtMatches, a_builtSkips, a_builtGrammar, a_builtMoves, a_builtActions, a_tokenRules, a_tokenBegins, a_tokenEnds, a_stackStates, a_stackValues)) : wpX_refineClasses post (f_productionCount, f_textLength, f_anythingBuilt, f_tokenCount, f_parseValue, f_parsePlace, a_ruleTerms, a_ruleLengths, a_skips, a_grammar, a_ranks, a_groupings, a_text, a_heads, a_tails, a_empties, a_placeLetters, a_followers, a_ruleEnds, a_sets, a_steps, a_classes, a_finerClasses, a_states, a_moves, a_begins, a_lookaheads, a_builtCounts, a_builtSteps, a_builtMatches, a_builtSkips, a_builtGrammar, a_builtMoves, a_builtActions, a_tokenRules, a_tokenBegins, a_tokenEnds, a_stackStates, a_stackValues) (nI c) := by
  have copy : ∀ fi : Nat → Int32, (∀ s t, s < c → t < c → (fi s = fi t ↔ Eq_ st mt (k + 1) s t)) → ∀ d s (cl : Nat → Int32), s + d = c → (∀ j, j < s → cl j = fi j) → wX_refineClasses_62 post (nI c) (nI (Nc st mt c (k + 1))) f_productionCount f_textLength f_anythingBuilt f_tokenCount f_parseValue f_parsePlace (d + 1) (nI s) a_ruleTerms a_ruleLengths a_skips a_grammar a_ranks a_groupings a_text a_heads a_tails a_empties a_placeLetters a_followers a_ruleEnds a_sets a_steps cl fi a_states a_moves a_begins a_lookaheads a_builtCounts a_builtSteps a_builtMatches a_builtSkips a_builtGrammar a_builtMoves a_builtActions a_tokenRules a_tokenBegins a_tokenEnds a_stackStates a_stackValues := by
    intro fi hfi d
    induction d with
    | zero =>
      intro s cl hs h
      have : s = c := by omega
      subst this
      have h' := H cl fi (fun a b ha hb => by rw [h a ha, h b hb]; exact hfi a b ha hb)
      exact pk_le 61 s (fun _ => h') (fun _ => pk_le s s (fun _ => h') (fun z => absurd z (by omega)))
    | succ d ih =>
      intro s cl hs h
      have is : vp_in (nI s) 61 := vp_in_nI (by omega) (by omega)
      refine pk_le 61 s (fun z => absurd z (by omega)) (fun _ => pk_le c s (fun z => absurd z (by omega)) (fun _ => ⟨is, is, ?_⟩))
      rw [nI_clamp (show s < 2 ^ 31 by omega)]
      refine nm_e (nm_r (nI_1 s) (ih (s + 1) _ (by omega) (fun j hj => ?_)))
      by_cases e : j = s
      · subst e; exact pk_us
      · rw [pk_un e]; exact h j (by omega)
  have loop : ∀ d s (fi : Nat → Int32), s + d = c → (∀ a b, a < s → b < s → (fi a = fi b ↔ Eq_ st mt (k + 1) a b)) → (∀ a, a < s → ∃ m, m < cP (Fst st mt (k + 1)) s ∧ fi a = nI m) →
      wX_refineClasses_4 post (nI c) f_productionCount f_textLength f_anythingBuilt f_tokenCount f_parseValue f_parsePlace (d + 1) (nI (cP (Fst st mt (k + 1)) s)) (nI s) a_ruleTerms a_ruleLengths a_skips a_grammar a_ranks a_groupings a_text a_heads a_tails a_empties a_placeLetters a_followers a_ruleEnds a_sets a_steps a_classes fi a_states a_moves a_begins a_lookaheads a_builtCounts a_builtSteps a_builtMatches a_builtSkips a_builtGrammar a_builtMoves a_builtActions a_tokenRules a_tokenBegins a_tokenEnds a_stackStates a_stackValues := by
    intro d
    induction d with
    | zero =>
      intro s fi hs h1 h2
      have : s = c := by omega
      subst this
      have h' : ∃ n62 : Nat, wX_refineClasses_62 post (nI s) (nI (Nc st mt s (k + 1))) f_productionCount f_textLength f_anythingBuilt f_tokenCount f_parseValue f_parsePlace n62 0 a_ruleTerms a_ruleLengths a_skips a_grammar a_ranks a_groupings a_text a_heads a_tails a_empties a_placeLetters a_followers a_ruleEnds a_sets a_steps a_classes fi a_states a_moves a_begins a_lookaheads a_builtCounts a_builtSteps a_builtMatches a_builtSkips a_builtGrammar a_builtMoves a_builtActions a_tokenRules a_tokenBegins a_tokenEnds a_stackStates a_stackValues := ⟨s + 1, copy fi h1 s 0 a_classes (by omega) (fun j hj => absurd hj (Nat.not_lt_zero _))⟩
      exact pk_le 61 s (fun _ => h') (fun _ => pk_le s s (fun _ => h') (fun z => absurd z (by omega)))
    | succ d ih =>
      intro s fi hs h1 h2
      have hcp := cP_le (P := Fst st mt (k + 1)) s
      refine pk_le 61 s (fun z => absurd z (by omega)) (fun _ => pk_le c s (fun z => absurd z (by omega)) (fun _ => xft hc hO hst hcl (by omega) (fun t ht hE => ?_) (fun hF => ?_)))
      · have hnf : ¬ Fst st mt (k + 1) s := fun z => z t ht hE
        have ih' := ih (s + 1) (upd fi s (fi t)) (by omega)
        rw [cP_f hnf] at ih'
        have ne : ¬ nI t = nI s := by rw [nI_eq (by omega) (by omega)]; omega
        refine br_f ne ⟨vp_in_nI (by omega) (by omega), ?_⟩
        unfold wX_refineClasses_44
        rw [nI_clamp (show t < 2 ^ 31 by omega), nI_clamp (show s < 2 ^ 31 by omega)]
        refine ⟨vp_in_nI (by omega) (by omega), nm_e (br_f ne (nm_r (nI_1 s) (ih' (fun a b ha hb => ?_) (fun a ha => ?_))))⟩
        · by_cases ea : a = s
          · subst ea
            rw [pk_us]
            by_cases eb : b = a
            · subst eb; rw [pk_us]; exact ⟨fun _ => Eq_r _ _, fun _ => rfl⟩
            · rw [pk_un eb, h1 t b ht (by omega)]
              exact ⟨fun z => Eq_t _ _ _ _ (Eq_s _ _ _ hE) z, fun z => Eq_t _ _ _ _ hE z⟩
          · rw [pk_un ea]
            by_cases eb : b = s
            · subst eb
              rw [pk_us, h1 a t (by omega) ht]
              exact ⟨fun z => Eq_t _ _ _ _ z hE, fun z => Eq_t _ _ _ _ z (Eq_s _ _ _ hE)⟩
            · rw [pk_un eb]; exact h1 a b (by omega) (by omega)
        · by_cases ea : a = s
          · subst ea; rw [pk_us]; exact h2 t ht
          · rw [pk_un ea]; exact h2 a (by omega)
      · have ih' := ih (s + 1) (upd fi s (nI (cP (Fst st mt (k + 1)) s))) (by omega)
        rw [cP_t hF] at ih'
        refine br_t rfl ?_
        unfold wX_refineClasses_44
        rw [nI_clamp (show s < 2 ^ 31 by omega)]
        have nof : ∀ a, a < s → fi a ≠ nI (cP (Fst st mt (k + 1)) s) := by
          intro a ha e
          obtain ⟨m, hm, em⟩ := h2 a ha
          rw [em] at e
          have := zn_inj (by omega) (by omega) e
          omega
        refine ⟨vp_in_nI (by omega) (by omega), nm_e (br_t rfl (nm_r (nI_1 _) (nm_r (nI_1 s) (ih' (fun a b ha hb => ?_) (fun a ha => ?_)))))⟩
        · by_cases ea : a = s
          · subst ea
            rw [pk_us]
            by_cases eb : b = a
            · subst eb; rw [pk_us]; exact ⟨fun _ => Eq_r _ _, fun _ => rfl⟩
            · rw [pk_un eb]
              exact ⟨fun z => absurd z.symm (nof b (by omega)), fun z => absurd (Eq_s _ _ _ z) (hF b (by omega))⟩
          · rw [pk_un ea]
            by_cases eb : b = s
            · subst eb
              rw [pk_us]
              exact ⟨fun z => absurd z (nof a (by omega)), fun z => absurd z (hF a (by omega))⟩
            · rw [pk_un eb]; exact h1 a b (by omega) (by omega)
        · by_cases ea : a = s
          · subst ea; rw [pk_us]; exact ⟨_, by omega, rfl⟩
          · rw [pk_un ea]
            obtain ⟨m, hm, em⟩ := h2 a (by omega)
            exact ⟨m, by omega, em⟩
  exact ⟨c + 1, loop c 0 a_finerClasses (by omega) (fun a b ha => absurd ha (Nat.not_lt_zero _)) (fun a ha => absurd ha (Nat.not_lt_zero _))⟩
theorem xcc {post : Int32 → SX → Prop} (h1c : 1 < c) (hc : c ≤ 61) (hO : stO st c) (hst : ∀ j, j < 4 * c → a_steps j = st j) (hmt : ∀ s, s < c → a_builtMatches s = mt s)
    {K : Nat} (hK : 1 ≤ K) (hK61 : K ≤ 61) (hE : Nc st mt c (K + 1) = Nc st mt c K) (hL : ∀ k, 1 ≤ k → k < K → Nc st mt c (k + 1) ≠ Nc st mt c k)
    (H : ∀ cl fi : Nat → Int32, post (nI (Nc st mt c K)) (f_productionCount, f_textLength, f_anythingBuilt, f_tokenCount, f_parseValue, f_parsePlace, a_ruleTerms, a_ruleLengths, a_skips, a_grammar, a_ranks, a_groupings, a_text, a_heads, a_tails, a_empties, a_placeLetters, a_followers, a_ruleEnds, a_sets, a_steps, cl, fi, a_states, a_moves, a_begins, a_lookaheads, a_builtCounts, a_builtSteps, a_builtMatches, a_builtSkips, a_builtGrammar, a_builtMoves, a_builtActions, a_tokenRules, a_tokenBegins, a_tokenEnds, a_stackStates, a_stackValues)) : wpX_countClasses post (f_productionCount, f_textLength, f_anythingBuilt, f_tokenCount, f_parseValue, f_parsePlace, a_ruleTerms, a_ruleLengths, a_skips, a_grammar, a_ranks, a_groupings, a_text, a_heads, a_tails, a_empties, a_placeLetters, a_followers, a_ruleEnds, a_sets, a_steps, a_classes, a_finerClasses, a_states, a_moves, a_begins, a_lookaheads, a_builtCounts, a_builtSteps, a_builtMatches, a_builtSkips, a_builtGrammar, a_builtMoves, a_builtActions, a_tokenRules, a_tokenBegins, a_tokenEnds, a_stackStates, a_stackValues) (nI c) := by
  have rounds : ∀ d k (x : Nat) (cl fi : Nat → Int32), k + d = K → ((k = 0 ∧ x = 0) ∨ (1 ≤ k ∧ x = Nc st mt c k)) → (∀ s t, s < c → t < c → (cl s = cl t ↔ Eq_ st mt k s t)) → wX_countClasses_42 post (nI c) (d + 1) (nI x) (nI k) f_productionCount f_textLength f_anythingBuilt f_tokenCount f_parseValue f_parsePlace a_ruleTerms a_ruleLengths a_skips a_grammar a_ranks a_groupings a_text a_heads a_tails a_empties a_placeLetters a_followers a_ruleEnds a_sets a_steps cl fi a_states a_moves a_begins a_lookaheads a_builtCounts a_builtSteps a_builtMatches a_builtSkips a_builtGrammar a_builtMoves a_builtActions a_tokenRules a_tokenBegins a_tokenEnds a_stackStates a_stackValues := by
    intro d
    induction d with
    | zero =>
      intro k x cl fi hk hx h
      have : k = K := by omega
      subst this
      have ex : x = Nc st mt c k := by omega
      subst ex
      refine br_f (nI_nlt (a := 61) (by omega) (by omega)) (xrf (a_classes := cl) (a_finerClasses := fi) hc hO hst h (fun cl' fi' _ => ?_))
      dsimp only
      rw [hE]
      exact br_t rfl (H cl' fi')
    | succ d ih =>
      intro k x cl fi hk hx h
      refine br_f (nI_nlt (a := 61) (by omega) (by omega)) (xrf (a_classes := cl) (a_finerClasses := fi) hc hO hst h (fun cl' fi' h' => ?_))
      dsimp only
      have hn1 := Nc_c (st := st) (mt := mt) (c := c) (k := k + 1)
      have hx61 : x ≤ 61 := by
        rcases hx with ⟨_, z⟩ | ⟨_, z⟩
        · omega
        · have := Nc_c (st := st) (mt := mt) (c := c) (k := k); omega
      have hne : Nc st mt c (k + 1) ≠ x := by
        rcases hx with ⟨z, y⟩ | ⟨z, y⟩
        · have := Nc_1 (st := st) (mt := mt) (c := c) (k := k + 1) (by omega); omega
        · rw [y]; exact hL k z (by omega)
      exact br_f (by rw [nI_eq (by omega) (by omega)]; exact hne) (nm_r (nI_1 k) (ih (k + 1) _ cl' fi' (by omega) (Or.inr ⟨by omega, rfl⟩) h'))
  have copy : ∀ d s (cl : Nat → Int32), s + d = c → (∀ j, j < s → cl j = mt j) → wX_countClasses_9 post (nI c) f_productionCount f_textLength f_anythingBuilt f_tokenCount f_parseValue f_parsePlace (d + 1) (nI s) a_ruleTerms a_ruleLengths a_skips a_grammar a_ranks a_groupings a_text a_heads a_tails a_empties a_placeLetters a_followers a_ruleEnds a_sets a_steps cl a_finerClasses a_states a_moves a_begins a_lookaheads a_builtCounts a_builtSteps a_builtMatches a_builtSkips a_builtGrammar a_builtMoves a_builtActions a_tokenRules a_tokenBegins a_tokenEnds a_stackStates a_stackValues := by
    intro d
    induction d with
    | zero =>
      intro s cl hs h
      have : s = c := by omega
      subst this
      have h' : ∃ n42 : Nat, wX_countClasses_42 post (nI s) n42 0 0 f_productionCount f_textLength f_anythingBuilt f_tokenCount f_parseValue f_parsePlace a_ruleTerms a_ruleLengths a_skips a_grammar a_ranks a_groupings a_text a_heads a_tails a_empties a_placeLetters a_followers a_ruleEnds a_sets a_steps cl a_finerClasses a_states a_moves a_begins a_lookaheads a_builtCounts a_builtSteps a_builtMatches a_builtSkips a_builtGrammar a_builtMoves a_builtActions a_tokenRules a_tokenBegins a_tokenEnds a_stackStates a_stackValues := ⟨K + 1, rounds K 0 0 cl a_finerClasses (by omega) (Or.inl ⟨rfl, rfl⟩) (fun a b ha hb => by rw [h a ha, h b hb]; rfl)⟩
      exact pk_le 61 s (fun _ => h') (fun _ => pk_le s s (fun _ => h') (fun z => absurd z (by omega)))
    | succ d ih =>
      intro s cl hs h
      have is : vp_in (nI s) 61 := vp_in_nI (by omega) (by omega)
      refine pk_le 61 s (fun z => absurd z (by omega)) (fun _ => pk_le c s (fun z => absurd z (by omega)) (fun _ => ⟨is, is, ?_⟩))
      rw [nI_clamp (show s < 2 ^ 31 by omega), hmt s (by omega)]
      refine nm_e (nm_r (nI_1 s) (ih (s + 1) _ (by omega) (fun j hj => ?_)))
      by_cases e : j = s
      · subst e; exact pk_us
      · rw [pk_un e]; exact h j (by omega)
  refine br_f (by rw [show (1 : Int32) = nI 1 from rfl, nI_eq (by omega) (by omega)]; omega) ⟨c + 1, copy c 0 a_classes (by omega) (fun j hj => absurd hj (Nat.not_lt_zero _))⟩
end
