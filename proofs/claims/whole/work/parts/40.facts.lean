/-! what was built is as the relation asks -/
def mkI (f : Nat → Bool) : Nat → Int64
  | 0 => 0
  | p + 1 => if f p then mkI f p ||| ((1 : Int64) <<< ((nI p).toInt64 &&& 63)) else mkI f p
theorem mk_b {f : Nat → Bool} {q : Nat} : ∀ n, n ≤ 64 → (bl (mkI f n) q = true ↔ q < n ∧ f q = true)
  | 0, _ => ⟨fun h => by unfold mkI at h; rw [zb_0] at h; exact absurd h (by decide), fun ⟨h, _⟩ => absurd h (Nat.not_lt_zero _)⟩
  | n + 1, hn => by
    unfold mkI
    by_cases c : f n = true
    · rw [if_pos c, zb_or, Bool.or_eq_true, mk_b n (by omega), zb_one (by omega), decide_eq_true_eq]
      constructor
      · rintro (⟨a, b⟩ | a)
        · exact ⟨by omega, b⟩
        · subst a; exact ⟨by omega, c⟩
      · rintro ⟨a, b⟩
        by_cases e : q = n
        · exact Or.inr e
        · exact Or.inl ⟨by omega, b⟩
    · rw [if_neg c, mk_b n (by omega)]
      constructor
      · rintro ⟨a, b⟩; exact ⟨by omega, b⟩
      · rintro ⟨a, b⟩
        by_cases e : q = n
        · subst e; exact absurd b c
        · exact ⟨by omega, b⟩
theorem mk_e {f : Nat → Bool} (h : ∀ q, f q = true → q < 32) (q : Nat) : bl (mkI f 32) q = f q := by
  rw [Bool.eq_iff_iff, mk_b 32 (by omega)]
  exact ⟨fun z => z.2, fun z => ⟨h q z, z⟩⟩
theorem yl_can {tm sz : Nat → Nat} (hw : rwf tm sz) : yLaid tm sz 4 (mkI (sta tm sz 4) 32) (fun r => mkI (TR tm sz r) 32) (fun p => mkI (gG tm sz 4 p) 32) :=
  ⟨fun q => mk_e (fun q h => (lc_i.mp (sta_sup hw.2.1 4 (by omega) q h)).1) q, fun r hr q => mk_e (fun q h => (lc_i.mp (TR_sup hw.2.1 hr h)).1) q, fun p _ q => mk_e (fun q h => (lc_i.mp (gG_sup hw.2.1 4 (by omega) p q h).2).1) q⟩
theorem yl_u {tm sz : Nat → Nat} {s s' : Int64} {e e' f f' : Nat → Int64} (h : yLaid tm sz 4 s e f) (g : yLaid tm sz 4 s' e' f') : s = s' ∧ (∀ r, r < 4 → e r = e' r) ∧ ∀ p, p < 32 → f p = f' p :=
  ⟨zb_ext fun q _ => by rw [h.1 q, g.1 q], fun r hr => zb_ext fun q _ => by rw [h.2.1 r hr q, g.2.1 r hr q], fun p hp => zb_ext fun q _ => by rw [h.2.2 p hp q, g.2.2 p hp q]⟩
theorem af_cg {f f' : Nat → Int64} {x : Int64} : ∀ n, (∀ p, p < n → f p = f' p) → afF f x n = afF f' x n
  | 0, _ => rfl
  | n + 1, h => by unfold afF; rw [af_cg n (fun p hp => h p (by omega)), h n (by omega)]
theorem tr_cg {f f' : Nat → Int64} {tm : Nat → Nat} {st : Int64} (h : ∀ p, p < 32 → f p = f' p) : trY f tm st = trY f' tm st := by
  funext s x l
  unfold trY
  rw [af_cg 32 h]
theorem mtc_cg {e e' : Nat → Int64} {x : Int64} (h : ∀ r, r < 4 → e r = e' r) : mtc e x 4 0 = mtc e' x 4 0 := by
  simp only [mtc, h 0 (by omega), h 1 (by omega), h 2 (by omega), h 3 (by omega)]
theorem dp_cg {tm tm' : Nat → Nat} {b n : Nat} (h : ∀ k, k < n → tm (b + k) = tm' (b + k)) : ∀ k, k ≤ n → dp tm b k = dp tm' b k
  | 0, _ => rfl
  | k + 1, hk => by
    show dp tm b k + 1 - tk (tm (b + k)) = dp tm' b k + 1 - tk (tm' (b + k))
    rw [dp_cg h k (by omega), h k (by omega)]
theorem ev_cg {tl tm tm' : Nat → Nat} {b n : Nat} (h : ∀ k, k < n → tm (b + k) = tm' (b + k)) : ∀ k, k ≤ n → ev tl tm b k = ev tl tm' b k
  | 0, _ => rfl
  | k + 1, hk => by
    show sm tl (tm (b + k)) (dp tm b k) (ev tl tm b k) = sm tl (tm' (b + k)) (dp tm' b k) (ev tl tm' b k)
    rw [dp_cg h k (by omega), h k (by omega), ev_cg h k (by omega)]
theorem wf_cg {tm tm' : Nat → Nat} {b n : Nat} (h : ∀ k, k < n → tm (b + k) = tm' (b + k)) (g : wf_ tm b n) : wf_ tm' b n := by
  refine ⟨fun k hk => ?_, ?_⟩
  · rw [← h k hk, ← dp_cg h k (by omega)]; exact g.1 k hk
  · rw [← dp_cg h n (Nat.le_refl _)]; exact g.2
theorem lg_cg {tl tm tm' sz sz' : Nat → Nat} {r i j : Nat} (hz : sz r = sz' r) (h : ∀ k, k < sz r → tm (8 * r + k) = tm' (8 * r + k)) : lg tl tm sz r i j ↔ lg tl tm' sz' r i j := by
  unfold lg
  rw [← hz, ev_cg h _ (Nat.le_refl _)]
theorem and0 {x y : Int64} : x &&& y = 0 ↔ ∀ i, ¬ (bl x i = true ∧ bl y i = true) := by
  constructor
  · intro h i z
    have : bl (x &&& y) i = true := by rw [zb_and, z.1, z.2]; rfl
    rw [h, zb_0] at this; exact absurd this (by decide)
  · intro h
    apply zb_ext
    intro i _
    rw [zb_and, zb_0]
    cases e1 : bl x i with
    | false => rfl
    | true =>
      cases e2 : bl y i with
      | false => rfl
      | true => exact absurd ⟨e1, e2⟩ (h i)
theorem mtc_s {en : Nat → Int64} {x : Int64} : (mtc en x 4 0 = -1 ∧ ∀ r, r < 4 → x &&& en r = 0) ∨ ∃ r, r < 4 ∧ mtc en x 4 0 = nI r ∧ x &&& en r ≠ 0 ∧ ∀ q, q < r → x &&& en q = 0 := by
  have key : ∀ d r, r + d = 4 → (∀ q, q < r → x &&& en q = 0) → (mtc en x d r = -1 ∧ ∀ q, q < 4 → x &&& en q = 0) ∨ ∃ p, p < 4 ∧ mtc en x d r = nI p ∧ x &&& en p ≠ 0 ∧ ∀ q, q < p → x &&& en q = 0 := by
    intro d
    induction d with
    | zero =>
      intro r hr h
      have : r = 4 := by omega
      subst this
      exact Or.inl ⟨rfl, h⟩
    | succ d ih =>
      intro r hr h
      unfold mtc
      by_cases c : x &&& en r = 0
      · rw [if_pos c]
        refine ih (r + 1) (by omega) (fun q hq => ?_)
        by_cases e : q = r
        · subst e; exact c
        · exact h q (by omega)
      · rw [if_neg c]
        exact Or.inr ⟨r, by omega, rfl, c, h⟩
  exact key 4 0 (by omega) (fun q hq => absurd hq (Nat.not_lt_zero _))
/-- the component's and the reference's sets meet the same rules' ends -/
theorem ends_i {tm sz : Nat → Nat} {pl fo re : Nat → Int32} {start : Int64} {ends foY : Nat → Int64} (hw : rwf tm sz) (hx : xLaid tm sz 4 pl fo re) (hy : yLaid tm sz 4 start ends foY) {v w : Int64} (h : (v = 65536 ∧ w = 0) ∨ rpS tm sz v w) {r : Nat} (hr : r < 4) : ((re r).toInt64 &&& v) = 0 ↔ (w &&& ends r) = 0 := by
  have u16 : lcn tm sz 32 ≤ 16 := lcn_4 hw 4 (by omega)
  have hre := hx.2.2.1 r hr
  have hbl : ∀ p, bl (re r).toInt64 p = true ↔ p < lcn tm sz 32 ∧ bt (re r) p = true := by
    intro p
    have h31 : bt (re r) 31 = false := hre.2 31 (by show lcn tm sz 32 ≤ 31; omega)
    by_cases c : p < 32
    · rw [zc_long _ c]
      refine ⟨fun z => ⟨?_, z⟩, fun z => z.2⟩
      rcases Nat.lt_or_ge p (lcn tm sz 32) with y | y
      · exact y
      · rw [hre.2 p y] at z; exact absurd z (by decide)
    · rw [zc_longH _ (by omega) h31]
      exact ⟨fun z => absurd z (by decide), fun z => by omega⟩
  rw [and0, and0]
  rcases h with ⟨rfl, rfl⟩ | h
  · refine ⟨fun _ i z => by rw [zb_0] at z; exact absurd z.1 (by decide), fun _ i z => ?_⟩
    have h1 := (hbl i).mp z.1
    have : i = 16 := by
      by_cases c : i < 64
      · have : ∀ p, p < 64 → bl 65536 p = true → p = 16 := by decide +kernel
        exact this i c z.2
      · have z2 := z.2
        rw [zb_big (by omega)] at z2; exact absurd z2 (by decide)
    omega
  · constructor
    · intro hno q z
      have hT : TR tm sz r q = true := by rw [← hy.2.1 r hr q]; exact z.2
      have hl := TR_sup hw.2.1 hr hT
      have h16 := lc_16 hw hl
      exact hno (lcn tm sz q) ⟨(hbl _).mpr ⟨h16.1, by rw [hre.1 q hl]; exact hT⟩, by rw [h.1 q hl]; exact z.1⟩
    · intro hno p z
      obtain ⟨h1, h2⟩ := (hbl p).mp z.1
      obtain ⟨q, hq, hl, rfl⟩ := lcn_on 32 p h1
      exact hno q ⟨by rw [← h.1 q hl]; exact z.2, by rw [hy.2.1 r hr q, ← hre.1 q hl]; exact h2⟩
/-- the automaton that was listed reads what the rules stand for -/
theorem sc_mk {tm sz : Nat → Nat} {start : Int64} {ends fo : Nat → Int64} (hw : rwf tm sz) (hy : yLaid tm sz 4 start ends fo) {b0 b : Nat × (Nat → Int64) × (Nat → Int32)} (h1 : b0.1 = 1) (h00 : b0.2.1 0 = 0) (hb : bf 61 4 (trY fo tm start) b0 61 = some b)
    {st ma bT bS : Nat → Int32} (hst : ∀ j, j < 4 * b.1 → st j = b.2.2 j) (hma : ∀ s, s < b.1 → ma s = mtc ends (b.2.1 s) 4 0) (hru : ru_ok bT bS) (hT : ∀ k, k < 32 → nv bT k = tm k) (hS : ∀ r, r < 4 → nv bS r = sz r) : sc_ok st ma bT bS := by
  obtain ⟨⟨i1, i2, i3, i4⟩, i5⟩ := bf_i h1 (by omega) 61 b hb
  rw [h00] at i5
  have hcell : ∀ s l, s < b.1 → l < 4 → (trY fo tm start s (b.2.1 s) l = 0 ∧ st (4 * s + l) = -1) ∨ (trY fo tm start s (b.2.1 s) l ≠ 0 ∧ ∃ k, 1 ≤ k ∧ k < b.1 ∧ b.2.1 k = trY fo tm start s (b.2.1 s) l ∧ st (4 * s + l) = nI k) := by
    intro s l hs hl
    rw [hst _ (by omega)]
    rcases i3 s l hs hl (Or.inl (by omega)) with z | ⟨z1, k, z2, z3, z4⟩
    · exact Or.inl z
    · refine Or.inr ⟨z1, k, ?_, z2, z3, z4⟩
      rcases Nat.eq_zero_or_pos k with y | y
      · subst y; rw [i5] at z3; exact absurd z3.symm z1
      · exact y
  have hT8 : ∀ r, r < 4 → ∀ k, k < sz r → tm (8 * r + k) = nv bT (8 * r + k) := fun r hr k hk => (hT _ (by have := hw.2.1 r; omega)).symm
  refine ⟨hru, fun r hr => ?_, b.1, i1, i2, fun s l hs hl => ?_, fun s hs => ?_, fun tl htl a m => ?_⟩
  · rw [hS r hr]; exact wf_cg (hT8 r hr) (hw.2.2 r hr)
  · rcases hcell s l hs hl with z | ⟨_, k, _, z2, _, z4⟩
    · exact Or.inl z.2
    · exact Or.inr ⟨k, z2, z4⟩
  · rw [hma s hs]
    rcases mtc_s (en := ends) (x := b.2.1 s) with z | ⟨r, z1, z2, _⟩
    · exact Or.inl z.1
    · exact Or.inr ⟨r, z1, z2⟩
  · have run : ∀ m, (dr st tl a (m + 1) = -1 ∧ ∀ q, ¬ Rn (gG tm sz 4) (sta tm sz 4) (rdp tm tl) a m q) ∨ ∃ s, 1 ≤ s ∧ s < b.1 ∧ dr st tl a (m + 1) = nI s ∧ ∀ q, bl (b.2.1 s) q = true ↔ Rn (gG tm sz 4) (sta tm sz 4) (rdp tm tl) a m q := by
      intro m
      induction m with
      | zero =>
        have hd : dr st tl a 1 = st (4 * 0 + tl a) := by
          show (if dr st tl a 0 = -1 then -1 else st (4 * (dr st tl a 0).toNatClampNeg + tl (a + 0))) = _
          rw [if_neg (by show ¬ (0 : Int32) = -1; decide)]; rfl
        have hbits : ∀ q, bl (trY fo tm start 0 (b.2.1 0) (tl a)) q = true ↔ Rn (gG tm sz 4) (sta tm sz 4) (rdp tm tl) a 0 q := by
          intro q
          unfold trY
          rw [if_pos rfl, rd_b 32 (by omega), hy.1 q]
          show _ ↔ (sta tm sz 4 q = true ∧ (tm q = 4 ∨ tl a = tm q))
          exact ⟨fun ⟨_, x, y⟩ => ⟨x, y.imp id Eq.symm⟩, fun ⟨x, y⟩ => ⟨(lc_i.mp (sta_sup hw.2.1 4 (by omega) q x)).1, x, y.imp id Eq.symm⟩⟩
        rw [hd]
        rcases hcell 0 (tl a) i1 (htl a) with ⟨z1, z2⟩ | ⟨z1, k, z0, z2, z3, z4⟩
        · refine Or.inl ⟨z2, fun q hq => ?_⟩
          have := (hbits q).mpr hq
          rw [z1, zb_0] at this; exact absurd this (by decide)
        · exact Or.inr ⟨k, z0, z2, z4, fun q => by rw [z3]; exact hbits q⟩
      | succ m ih =>
        rcases ih with ⟨h1, h2⟩ | ⟨s, s1, s2, s3, s4⟩
        · refine Or.inl ⟨?_, fun q ⟨p, hp, _⟩ => h2 p hp⟩
          show (if dr st tl a (m + 1) = -1 then -1 else _) = _
          rw [if_pos h1]
        · have hd : dr st tl a (m + 1 + 1) = st (4 * s + tl (a + (m + 1))) := by
            show (if dr st tl a (m + 1) = -1 then -1 else st (4 * (dr st tl a (m + 1)).toNatClampNeg + tl (a + (m + 1)))) = _
            rw [s3, if_neg (zn_ne1 (by omega)), nI_clamp (by omega)]
          have hbits : ∀ q, bl (trY fo tm start s (b.2.1 s) (tl (a + (m + 1)))) q = true ↔ Rn (gG tm sz 4) (sta tm sz 4) (rdp tm tl) a (m + 1) q := by
            intro q
            unfold trY
            rw [if_neg (by omega), rd_b 32 (by omega), af_b]
            constructor
            · rintro ⟨x, ⟨p, p1, p2, p3⟩, y⟩
              exact ⟨p, (s4 p).mp p2, by rw [← hy.2.2 p p1 q]; exact p3, y.imp id Eq.symm⟩
            · rintro ⟨p, p2, p3, y⟩
              have hsup := gG_sup hw.2.1 4 (by omega) p q p3
              have hp32 := (lc_i.mp hsup.1).1
              exact ⟨(lc_i.mp hsup.2).1, ⟨p, hp32, (s4 p).mpr p2, by rw [hy.2.2 p hp32 q]; exact p3⟩, y.imp id Eq.symm⟩
          rw [hd]
          rcases hcell s _ s2 (htl (a + (m + 1))) with ⟨z1, z2⟩ | ⟨z1, k, z0, z2, z3, z4⟩
          · refine Or.inl ⟨z2, fun q hq => ?_⟩
            have := (hbits q).mpr hq
            rw [z1, zb_0] at this; exact absurd this (by decide)
          · exact Or.inr ⟨k, z0, z2, z4, fun q => by rw [z3]; exact hbits q⟩
    have hlg : ∀ r, r < 4 → (lg tl (nv bT) (nv bS) r a (a + m + 1) ↔ ∃ q, Rn (gG tm sz 4) (sta tm sz 4) (rdp tm tl) a m q ∧ TR tm sz r q = true) := by
      intro r hr
      rw [glu hw hr]
      exact (lg_cg (hS r hr).symm (hT8 r hr)).symm
    rcases run m with ⟨h1, h2⟩ | ⟨s, s1, s2, s3, s4⟩
    · refine Or.inl ⟨?_, fun r hr z => ?_⟩
      · unfold sc_v; rw [if_pos h1]
      · obtain ⟨q, hq, _⟩ := (hlg r hr).mp z
        exact h2 q hq
    · have hv : sc_v st ma tl a (m + 1) = mtc ends (b.2.1 s) 4 0 := by
        unfold sc_v; rw [s3, if_neg (zn_ne1 (by omega)), nI_clamp (by omega), hma s s2]
      have hz : ∀ r, r < 4 → (b.2.1 s &&& ends r = 0 ↔ ¬ lg tl (nv bT) (nv bS) r a (a + m + 1)) := by
        intro r hr
        rw [hlg r hr, and0]
        constructor
        · rintro h ⟨q, hq, ht⟩
          exact h q ⟨(s4 q).mpr hq, by rw [hy.2.1 r hr q]; exact ht⟩
        · intro h q z
          exact h ⟨q, (s4 q).mp z.1, by rw [← hy.2.1 r hr q]; exact z.2⟩
      unfold sc_m
      rw [hv]
      rcases mtc_s (en := ends) (x := b.2.1 s) with ⟨z1, z2⟩ | ⟨r, z1, z2, z3, z4⟩
      · exact Or.inl ⟨z1, fun r hr => (hz r hr).mp (z2 r hr)⟩
      · refine Or.inr ⟨r, z1, z2, Classical.byContradiction fun y => z3 ((hz r z1).mpr y), fun q hq => (hz q (by omega)).mp (z4 q hq)⟩
/-- the beginning alone is listed just where no rule begins -/
theorem start_1 {tm sz : Nat → Nat} {start : Int64} {ends fo : Nat → Int64} (hw : rwf tm sz) (hy : yLaid tm sz 4 start ends fo) {b0 b : Nat × (Nat → Int64) × (Nat → Int32)} (h1 : b0.1 = 1) (h00 : b0.2.1 0 = 0) (hb : bf 61 4 (trY fo tm start) b0 61 = some b) : start = 0 ↔ b.1 = 1 := by
  obtain ⟨⟨i1, i2, i3, i4⟩, i5⟩ := bf_i h1 (by omega) 61 b hb
  rw [h00] at i5
  constructor
  · intro e
    rcases Nat.lt_or_ge 1 b.1 with z | z
    · obtain ⟨j1, p, m, j2, j3, j4⟩ := i4 1 (Nat.le_refl _) z
      exfalso
      apply j1
      have : p = 0 := by omega
      subst this
      rw [j4]
      apply zb_ext
      intro q _
      rw [zb_0]
      cases hq : bl (trY fo tm start 0 (b.2.1 0) m) q with
      | false => rfl
      | true =>
        unfold trY at hq
        rw [if_pos rfl, rd_b 32 (by omega), e, zb_0] at hq
        exact absurd hq.2.1 (by decide)
    · omega
  · intro e
    apply zb_ext
    intro q _
    rw [zb_0]
    cases hq : bl start q with
    | false => rfl
    | true =>
      exfalso
      have hs : sta tm sz 4 q = true := by rw [← hy.1 q]; exact hq
      have hl := lc_i.mp (sta_sup hw.2.1 4 (by omega) q hs)
      have key : ∀ l, l < 4 → trY fo tm start 0 (b.2.1 0) l = 0 := by
        intro l hl4
        rcases i3 0 l (by omega) hl4 (Or.inl (by omega)) with z | ⟨z1, k, z2, z3, _⟩
        · exact z.1
        · have : k = 0 := by omega
          subst this
          rw [← z3, i5]
      have : ∃ l, l < 4 ∧ (tm q = 4 ∨ tm q = l) := by
        by_cases c : tm q = 4
        · exact ⟨0, by omega, Or.inl c⟩
        · exact ⟨tm q, by omega, Or.inr rfl⟩
      obtain ⟨l, hl4, hm⟩ := this
      have hbit : bl (trY fo tm start 0 (b.2.1 0) l) q = true := by
        unfold trY
        rw [if_pos rfl, rd_b 32 (by omega)]
        exact ⟨hl.1, hq, hm⟩
      rw [key l hl4, zb_0] at hbit
      exact absurd hbit (by decide)
/-! facts of the states -/
section
variable {pc : Nat} {L W : Nat → Nat} {R : Nat → Nat → Nat}
theorem tr_or (hV : gr_V pc L W R) {v : Int64} {x j : Nat} (hx : x < 2 ^ 31) (h : bl (clo pc L W R (bhF W R v (nI x) 34)) j = true) : (j % 4 ≠ 0 ∧ bl v (j - 1) = true ∧ (j - 1) % 4 < W ((j - 1) / 4) ∧ j / 4 = (j - 1) / 4) ∨ (∃ p i, p < pc ∧ j = 4 * p ∧ i < 34 ∧ bl (clo pc L W R (bhF W R v (nI x) 34)) i = true ∧ nxt W R i = nI (L p)) := by
  rcases clo_or h with z | ⟨i, i1, i2, i3⟩
  · have h1 := bh_in hV (zn_ne1 hx) (by omega) z
    obtain ⟨i, i1, i2, i3, rfl⟩ := (bh_b 34 (by omega)).mp z
    refine Or.inl ⟨h1.2, i2, ?_, by omega⟩
    unfold nxt at i3
    by_cases c : i % 4 < W (i / 4)
    · exact c
    · rw [if_neg c] at i3; exact absurd i3.symm (zn_ne1 hx)
  · obtain ⟨p, p1, p2, p3⟩ := (bg_b pc hV.1).mp i3
    exact Or.inr ⟨p, i, p1, p3, i1, i2, p2.symm⟩
theorem st_or (hV : gr_V pc L W R) {j : Nat} (h : bl (st0 pc L W R) j = true) : j = 32 ∨ ∃ p i, p < pc ∧ j = 4 * p ∧ i < 34 ∧ bl (st0 pc L W R) i = true ∧ nxt W R i = nI (L p) := by
  rcases clo_or h with z | ⟨i, i1, i2, i3⟩
  · exact Or.inl ((b32 j).mp z)
  · obtain ⟨p, p1, p2, p3⟩ := (bg_b pc hV.1).mp i3
    exact Or.inr ⟨p, i, p1, p3, i1, i2, p2.symm⟩
theorem sc13 (m : Nat) (hm : m < 7) : sc m < 2 ^ 31 := by unfold sc; split <;> omega
/-- states: their items are productions', and where their items lead -/
theorem st_f (hV : gr_V pc L W R) {b0 b : Nat × (Nat → Int64) × (Nat → Int32)} (h1 : b0.1 = 1) (h00 : b0.2.1 0 = st0 pc L W R) (hb : bf 40 7 (trS pc L W R) b0 40 = some b) :
    1 ≤ b.1 ∧ b.1 ≤ 40 ∧ b.2.1 0 = st0 pc L W R ∧ (∀ s j, s < b.1 → 34 ≤ j → bl (b.2.1 s) j = false) ∧
    (∀ s x, s < b.1 → sym x → b.2.2 (7 * s + col x) = -1 ∨ ∃ t, 0 < t ∧ t < b.1 ∧ b.2.2 (7 * s + col x) = nI t ∧ ∀ j, bl (b.2.1 t) j = true → j % 4 ≠ 0 → bl (b.2.1 s) (j - 1) = true) ∧
    (∀ s i, s < b.1 → i < 34 → bl (b.2.1 s) i = true → i % 4 < W (i / 4) → ∃ t, t < b.1 ∧ b.2.2 (7 * s + col (R (i / 4) (i % 4))) = nI t) ∧
    (∀ s p, s < b.1 → p < 8 → bl (b.2.1 s) (4 * p) = true → p < pc ∧ b.2.2 (7 * s + col (L p)) ≠ -1) ∧
    (∀ j, bl (b.2.1 0) j = true → j % 4 = 0) ∧ (∀ s, s < b.1 → bl (b.2.1 s) 32 = true → s = 0) ∧
    (∀ s p, s < b.1 → pc ≤ p → p < 8 → bl (b.2.1 s) (4 * p + W p) = false) := by
  have hpc := hV.1
  obtain ⟨i0, i5⟩ := bf_i h1 (by omega) 40 b hb
  obtain ⟨i1, i2, i3, i4⟩ := id i0
  rw [h00] at i5
  have from_ : ∀ s, s < b.1 → b.2.1 s = st0 pc L W R ∨ ∃ p m, p < s ∧ m < 7 ∧ b.2.1 s = clo pc L W R (bhF W R (b.2.1 p) (nI (sc m)) 34) := by
    intro s hs
    rcases Nat.eq_zero_or_pos s with z | z
    · subst z; exact Or.inl i5
    · obtain ⟨_, p, m, q1, q2, q3⟩ := i4 s z hs
      exact Or.inr ⟨p, m, q1, q2, q3⟩
  -- the items of a state belong to productions
  have own : ∀ n s, s < n → s < b.1 → ∀ j, bl (b.2.1 s) j = true → j / 4 < pc ∨ j / 4 = 8 := by
    intro n
    induction n with
    | zero => intro s hs; omega
    | succ n ih =>
      intro s hsn hs j hj
      rcases from_ s hs with e | ⟨p, m, p1, p2, e⟩
      · rw [e] at hj
        rcases st_or hV hj with z | ⟨p, i, z1, z2, _⟩
        · subst z; exact Or.inr rfl
        · left; omega
      · rw [e] at hj
        rcases tr_or hV (sc13 m p2) hj with ⟨z1, z2, z3, z4⟩ | ⟨p, i, z1, z2, _⟩
        · rw [z4]; exact ih p (by omega) (by omega) _ z2
        · left; omega
  have lead : ∀ s i, s < b.1 → i < 34 → bl (b.2.1 s) i = true → i % 4 < W (i / 4) → ∃ t, t < b.1 ∧ b.2.2 (7 * s + col (R (i / 4) (i % 4))) = nI t := by
    intro s i hs hi hb1 hc
    have hsy : sym (R (i / 4) (i % 4)) := (hV.2.1 (i / 4)).2.2 _ hc
    obtain ⟨c1, c2⟩ := col_s hsy
    rcases i3 s _ hs c1 (Or.inl (by omega)) with ⟨z1, _⟩ | ⟨_, k, z2, _, z4⟩
    · exfalso
      unfold trS at z1
      rw [c2] at z1
      have hx : bl (bhF W R (b.2.1 s) (nI (R (i / 4) (i % 4))) 34) (i + 1) = true := (bh_b 34 (by omega)).mpr ⟨i, hi, hb1, by unfold nxt; rw [if_pos hc], rfl⟩
      have := clo_le (pc := pc) (L := L) (W := W) (R := R) hx
      rw [z1, zb_0] at this; exact absurd this (by decide)
    · exact ⟨k, z2, z4⟩
  refine ⟨i1, i2, i5, fun s j hs hj => st34 hV i0 i5 hs hj, fun s x hs hx => ?_, lead, fun s p hs hp hbp => ?_, fun j hj => ?_, fun s hs h32 => ?_, fun s p hs h1 h2 => ?_⟩
  · obtain ⟨c1, c2⟩ := col_s hx
    have hx31 : x < 2 ^ 31 := by rcases hx with z | z <;> omega
    rcases i3 s _ hs c1 (Or.inl (by omega)) with ⟨_, z2⟩ | ⟨_, k, z2, z3, z4⟩
    · exact Or.inl z2
    · unfold trS at z3
      rw [c2] at z3
      refine Or.inr ⟨k, ?_, z2, z4, fun j hj hj4 => ?_⟩
      · rcases Nat.eq_zero_or_pos k with y | y
        · subst y
          exfalso
          have : bl (b.2.1 0) 32 = true := by rw [i5]; exact clo_le ((b32 32).mpr rfl)
          rw [z3] at this
          rcases tr_or hV hx31 this with ⟨w1, _⟩ | ⟨p, i, w1, w2, _⟩
          · exact w1 rfl
          · omega
        · exact y
      · rw [z3] at hj
        rcases tr_or hV hx31 hj with ⟨_, w2, _⟩ | ⟨p, i, w1, w2, _⟩
        · exact w2
        · omega
  · have base : ∃ i, p < pc ∧ i < 34 ∧ bl (b.2.1 s) i = true ∧ nxt W R i = nI (L p) := by
      rcases from_ s hs with e | ⟨q, m, q1, q2, e⟩
      · have hb2 := hbp
        rw [e] at hb2
        rcases st_or hV hb2 with z | ⟨p', i, z1, z2, z3, z4, z5⟩
        · omega
        · have : p' = p := by omega
          subst this
          exact ⟨i, z1, z3, by rw [e]; exact z4, z5⟩
      · have hb2 := hbp
        rw [e] at hb2
        rcases tr_or hV (sc13 m q2) hb2 with ⟨z1, _⟩ | ⟨p', i, z1, z2, z3, z4, z5⟩
        · omega
        · have : p' = p := by omega
          subst this
          exact ⟨i, z1, z3, by rw [e]; exact z4, z5⟩
    obtain ⟨i, p1, p2, p3, p4⟩ := base
    have hL := hV.2.2.1 p p1
    refine ⟨p1, ?_⟩
    unfold nxt at p4
    by_cases c : i % 4 < W (i / 4)
    · rw [if_pos c] at p4
      have hsy := (hV.2.1 (i / 4)).2.2 _ c
      have hR : R (i / 4) (i % 4) = L p := zn_inj (by rcases hsy with z | z <;> omega) (by omega) p4
      obtain ⟨t, t1, t2⟩ := lead s i hs p2 p3 c
      rw [hR] at t2
      rw [t2]; exact zn_ne1 (by omega)
    · rw [if_neg c] at p4; exact absurd p4.symm (zn_ne1 (by omega))
  · rw [i5] at hj
    rcases st_or hV hj with z | ⟨p, i, z1, z2, _⟩
    · subst z; rfl
    · omega
  · rcases Nat.eq_zero_or_pos s with y | y
    · exact y
    · exfalso
      obtain ⟨_, p, m, q1, q2, q3⟩ := i4 s y hs
      rw [q3] at h32
      rcases tr_or hV (sc13 m q2) h32 with ⟨w1, _⟩ | ⟨p, i, w1, w2, _⟩
      · exact w1 rfl
      · omega
  · cases e : bl (b.2.1 s) (4 * p + W p) with
    | false => rfl
    | true =>
      have hw := (hV.2.1 p).2.1
      have := own (s + 1) s (by omega) hs _ e
      omega
/-- the actions are as the relation asks -/
theorem ac_mk (hV : gr_V pc L W R) {ns : Nat} {G : Nat → Int64} {M mv : Nat → Int32} {la : Nat → Nat → Int32} {ra gr : Nat → Int32} (hns : ns ≤ 40) {s t : Nat} (hs : s < ns) (ht : t < 5) (hM : ∀ x, sym x → mv (13 * s + x) = M (7 * s + col x)) (hMq : ∀ x, sym x → M (7 * s + col x) = -1 ∨ ∃ q, q < ns ∧ M (7 * s + col x) = nI q) :
    ac_ok (fun s j => bl (G s) j) W mv s t (actO W R G M la ra gr s t).1 (actO W R G M la ra gr s t).2.1 := by
  obtain ⟨-, -, f3, f4, f5⟩ := fo_e (crB W G la s t)
  unfold actO
  generalize hch : (xfo (crB W G la s t) 9).1 = ch at *
  generalize (xfo (crB W G la s t) 9).2 = n at *
  have red : ch < 8 → ac_ok (fun s j => bl (G s) j) W mv s t (nI ch) (nI (100 + ch)) := by
    intro h8
    refine Or.inr (Or.inr (Or.inr ⟨ch, h8, rfl, rfl, ?_⟩))
    rcases f5 with z | ⟨_, z⟩
    · omega
    · unfold crB at z
      rw [Bool.and_eq_true] at z
      exact z.1
  unfold onF
  by_cases c : t < 4 ∧ M (7 * s + t) ≠ -1
  · rw [if_pos c]
    have hcol : col t = t := by unfold col; rw [if_pos c.1]
    have hq := hMq t (Or.inl c.1)
    have hmv := hM t (Or.inl c.1)
    rw [hcol] at hq hmv
    obtain ⟨q, q1, q2⟩ := hq.resolve_left c.2
    have shf : ac_ok (fun s j => bl (G s) j) W mv s t 9 (nI (2 + (M (7 * s + t)).toNatClampNeg)) := by
      refine Or.inr (Or.inr (Or.inl ⟨rfl, c.1, q, by omega, by rw [hmv, q2], ?_⟩))
      rw [q2, nI_clamp (by omega)]
    unfold actF
    dsimp only
    by_cases n0 : n = 0
    · rw [if_pos n0]; exact shf
    · rw [if_neg n0]
      by_cases r0 : rkF ra R ch (W ch) = 0 ∨ ra t = 0
      · rw [if_pos r0]; exact shf
      · rw [if_neg r0]
        have h8 : ch < 8 := by
          have c9 : ch ≠ 9 := fun z => n0 (f3.mpr z)
          rcases f5 with z | ⟨z, _⟩
          · exact absurd z c9
          · by_cases e : ch = 8
            · exfalso
              apply r0
              left
              rw [e, hV.2.2.2.2.1]
              show (if R 8 0 < 4 then _ else (0 : Int32)) = 0
              rw [hV.2.2.2.2.2, if_neg (by omega)]
            · omega
        by_cases re : rkF ra R ch (W ch) = ra t
        · rw [if_pos re]
          by_cases g0 : gr t = 0
          · rw [if_pos g0]; exact red h8
          · rw [if_neg g0]
            by_cases g1 : gr t = 1
            · rw [if_pos g1]; exact shf
            · rw [if_neg g1]; exact Or.inl ⟨rfl, rfl⟩
        · rw [if_neg re]
          by_cases rl : rkF ra R ch (W ch) ≤ ra t
          · rw [if_pos rl]; exact shf
          · rw [if_neg rl]; exact red h8
  · rw [if_neg c]
    unfold actF
    dsimp only
    by_cases c9 : ch = 9
    · rw [if_pos c9, if_pos c9]; exact Or.inl ⟨rfl, rfl⟩
    · rw [if_neg c9, if_neg c9]
      by_cases e : ch = 8
      · rw [if_pos e]
        refine Or.inr (Or.inl ⟨by rw [e]; rfl, rfl, ?_⟩)
        rcases f5 with z | ⟨_, z⟩
        · omega
        · unfold crB at z
          rw [Bool.and_eq_true, e, hV.2.2.2.2.1] at z
          exact z.1
      · rw [if_neg e]
        exact red (by rcases f5 with z | ⟨z, _⟩ <;> omega)
end
