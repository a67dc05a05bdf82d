/-! BEND, ROUND, PERIOD. -/
def tdr (n : Nat) (lt : Nat → Nat → Bool) (h : Int32) (d : Nat → Int32) : Nat → Nat → Int32
  | 0 => d
  | i + 1 => bnd n lt h (tdr n lt h d i) (n - 1 - i)
def tdc (n : Nat) (lt : Nat → Nat → Bool) (h : Int32) (c : Nat → Nat) (d : Nat → Int32) : Nat → Nat → Int32
  | 0 => d
  | i + 1 => bnd n lt h (tdc n lt h c d i) (c i)
def tdq (n k : Nat) (lt : Nat → Nat → Bool) (h : Int32) (c : Nat → Nat) (q : Nat) (d : Nat → Int32) : Nat → Int32 := if q = 0 then tdr n lt h d n else tdc n lt h c d k
theorem tdX {P : Sg → Prop} {n k : Nat} {lt : Nat → Nat → Bool} {c : Nat → Nat} {wt : Nat → Int32} {tc cl : Int32} {tr : Int64} {g : Sg} (A : AS n k lt c wt) (R : RX n k lt c wt tc cl g) {h : Int32} {q : Nat} {d : Nat → Int32} (hq : q < 2) (hd : ∀ j, j < n → g 7 j = d j)
    (hh : ∀ g2 : Sg, (∀ a, a ≠ 7 → g2 a = g a) → (∀ j, j < n → g2 7 j = tdq n k lt h c q d j) → P g2) : wX_turnDigits P tc cl tr g h (nI q) := by
  obtain ⟨b1, b2, b3, hO, b5, -⟩ := id A
  have etc := R.1
  have ecl := R.2.1
  subst etc ecl
  unfold wX_turnDigits
  refine br_ne (a := q) (b := 0) (by omega) (by decide) (fun u => ?_) (fun u x3 e3 => ?_)
  · refine Lp2_up (fun i x3 g0 => x3 = nI i ∧ (∀ a, a ≠ 7 → g0 a = g a) ∧ ∀ j, j < n → g0 7 j = tdc n lt h c d i j) k ?_ 0 0 g (Nat.zero_le _) ⟨rfl, fun _ _ => rfl, hd⟩
    rintro i x3 g0 hi ⟨rfl, hg, hI⟩ B hB
    have R0 := R.keep (g2 := g0) (fun a ha => hg a (by omega))
    unfold wX_turnDigits_b32
    refine br_le (by omega) (by omega) (fun v => hh g0 hg (fun j hj => ?_)) (fun hlt => ⟨vp_in_nI (by omega) (by decide), ?_⟩)
    · rw [hI j hj, tdq, if_neg u, show i = k by omega]
    · rw [nI_clamp (by omega), R0.2.2.2.2.2 i hlt]
      exact fdX A R0 (b5 i hlt) hI (fun g2 hg2 hd2 => hB _ _ hlt ⟨nI_1 i, fun a ha => by rw [hg2 a ha, hg a ha], hd2⟩)
  · refine Lp2_up (fun i x3 g0 => x3 = nI (n - i) - 1 ∧ (∀ a, a ≠ 7 → g0 a = g a) ∧ ∀ j, j < n → g0 7 j = tdr n lt h d i j) n ?_ 0 x3 g (Nat.zero_le _) ⟨e3, fun _ _ => rfl, hd⟩
    rintro i x3 g0 hi ⟨rfl, hg, hI⟩ B hB
    have R0 := R.keep (g2 := g0) (fun a ha => hg a (by omega))
    unfold wX_turnDigits_b11
    rcases Nat.lt_or_ge i n with hlt | hge
    · obtain ⟨m, hm⟩ : ∃ m, n - i = m + 1 := ⟨n - i - 1, by omega⟩
      rw [hm, dn_step]
      refine ⟨fun v => absurd v (dn_pos (by omega)), fun _ => ?_⟩
      rw [nI_pred]
      refine fdX A R0 (by omega) hI (fun g2 hg2 hd2 => hB _ _ hlt ⟨by rw [show n - (i + 1) = m by omega], fun a ha => by rw [hg2 a ha, hg a ha], fun j hj => ?_⟩)
      rw [hd2 j hj, tdr, show n - 1 - i = m by omega]
    · have ei : i = n := by omega
      rw [ei, Nat.sub_self]
      refine ⟨fun _ => hh g0 hg (fun j hj => ?_), fun v => absurd dn_neg v⟩
      rw [hI j hj, tdq, if_pos u, ei]
theorem tdM {P : Sg → Prop} {n k : Nat} {lt : Nat → Nat → Bool} {c : Nat → Nat} {wt : Nat → Int32} {tc cl : Int32} {tr : Int64} {g : Sg} (A : AS n k lt c wt) (R : RM n k lt c wt tc cl g) {h : Int32} {q : Nat} {d : Nat → Int32} (hq : q < 2) (hd : ∀ j, j < n → g 7 j = d j)
    (hh : ∀ g2 : Sg, (∀ a, a ≠ 7 → g2 a = g a) → (∀ j, j < n → g2 7 j = tdq n k lt h c q d j) → P g2) : wM_rounds P tc cl tr g h (nI q) := by
  obtain ⟨b1, b2, b3, hO, b5, -⟩ := id A
  have etc := R.1
  have ecl := R.2.1
  subst etc ecl
  unfold wM_rounds
  refine br_ne (a := q) (b := 1) (by omega) (by decide) (fun u x3 e3 => ?_) (fun u => ?_)
  · refine Lp2_up (fun i x3 g0 => x3 = nI (n - i) - 1 ∧ (∀ a, a ≠ 7 → g0 a = g a) ∧ ∀ j, j < n → g0 7 j = tdr n lt h d i j) n ?_ 0 x3 g (Nat.zero_le _) ⟨e3, fun _ _ => rfl, hd⟩
    rintro i x3 g0 hi ⟨rfl, hg, hI⟩ B hB
    have R0 := R.keep (g2 := g0) (fun a ha => hg a (by omega))
    unfold wM_rounds_b42
    rcases Nat.lt_or_ge i n with hlt | hge
    · obtain ⟨m, hm⟩ : ∃ m, n - i = m + 1 := ⟨n - i - 1, by omega⟩
      rw [hm, dn_step]
      refine ⟨fun v => absurd v (dn_pos (by omega)), fun _ => ?_⟩
      rw [nI_pred]
      refine bdM A R0 (by omega) hI (fun g2 hg2 hd2 => hB _ _ hlt ⟨by rw [show n - (i + 1) = m by omega], fun a ha => by rw [hg2 a ha, hg a ha], fun j hj => ?_⟩)
      rw [hd2 j hj, tdr, show n - 1 - i = m by omega]
    · have ei : i = n := by omega
      rw [ei, Nat.sub_self]
      refine ⟨fun _ => hh g0 hg (fun j hj => ?_), fun v => absurd dn_neg v⟩
      rw [hI j hj, tdq, if_pos (show q = 0 by omega), ei]
  · refine Lp2_up (fun i x3 g0 => x3 = nI i ∧ (∀ a, a ≠ 7 → g0 a = g a) ∧ ∀ j, j < n → g0 7 j = tdc n lt h c d i j) k ?_ 0 0 g (Nat.zero_le _) ⟨rfl, fun _ _ => rfl, hd⟩
    rintro i x3 g0 hi ⟨rfl, hg, hI⟩ B hB
    have R0 := R.keep (g2 := g0) (fun a ha => hg a (by omega))
    unfold wM_rounds_b7
    refine br_le (by omega) (by omega) (fun v => hh g0 hg (fun j hj => ?_)) (fun hlt => ⟨vp_in_nI (by omega) (by decide), ?_⟩)
    · rw [hI j hj, tdq, if_neg (show ¬ q = 0 by omega), show i = k by omega]
    · rw [nI_clamp (by omega), R0.2.2.2.2 i hlt]
      exact bdM A R0 (b5 i hlt) hI (fun g2 hg2 hd2 => hB _ _ hlt ⟨nI_1 i, fun a ha => by rw [hg2 a ha, hg a ha], hd2⟩)
theorem st_bend : Step_bend Rel := by
  intro tc cl tr g tc' cl' tr' g' a1 a2 a3 hR
  obtain ⟨n, k, lt, c, wt, A, X, M, e⟩ := id hR
  obtain ⟨b1, b2, -⟩ := id A
  unfold wX_bend
  by_cases h3 : ∃ i, i < n ∧ a3 = nI i
  · obtain ⟨i, hi, rfl⟩ := h3
    refine tX_y X.1 b2 hi (z1 ?_)
    by_cases h1 : ∃ q, 1 ≤ q ∧ q ≤ 3 ∧ a1 = nI q
    · obtain ⟨q, q1, q3, rfl⟩ := h1
      refine rfX A X q1 q3 (fun v g3 hg3 hd3 => y1 ?_) (fun v g3 hg3 => y0 ?_)
      · refine fdX A (X.keep (fun a ha => hg3 a (by omega))) hi hd3 (fun g4 hg4 hd4 => ?_)
        refine ndX A (X.keep (fun a ha => by rw [hg4 a (by omega), hg3 a (by omega)])) hd4 ?_
        refine htM_y q1 q3 (z1 ?_)
        refine tM_y M.1 b2 hi (z1 ?_)
        refine tkM A M q1 q3 (fun _ g4' hg4' hd4' => y1 ?_) (fun v' => absurd v v')
        refine bdM A (M.keep (fun a ha => hg4' a (by omega))) hi hd4' (fun g5 hg5 hd5 => ?_)
        refine ndM A (M.keep (fun a ha => by rw [hg5 a (by omega), hg4' a (by omega)])) hd5 ⟨rfl, ?_⟩
        exact Rel.scrX A X M e (fun a ha => by rw [hg4 a (by omega), hg3 a (by omega)]) (fun a ha => by rw [hg5 a (by omega), hg4' a (by omega)])
      · refine htM_y q1 q3 (z1 ?_)
        refine tM_y M.1 b2 hi (z1 ?_)
        exact tkM A M q1 q3 (fun v' => absurd v' v) (fun _ g4' hg4' => y0 ⟨rfl, Rel.scrX A X M e (fun a ha => hg3 a (by omega)) (fun a ha => hg4' a (by omega))⟩)
    · have hx : ∀ q, 1 ≤ q → q ≤ 3 → a1 ≠ nI q := fun q u1 u2 u3 => h1 ⟨q, u1, u2, u3⟩
      unfold wX_readFilling
      exact htX_n hx (z0 (y0 (htM_n hx (z0 ⟨rfl, hR⟩))))
  · have hx : ∀ j, j < n → a3 ≠ nI j := fun j hj q => h3 ⟨j, hj, q⟩
    refine tX_n X.1 b2 hx (z0 ?_)
    by_cases h1 : ∃ q, 1 ≤ q ∧ q ≤ 3 ∧ a1 = nI q
    · obtain ⟨q, q1, q3, rfl⟩ := h1
      exact htM_y q1 q3 (z1 (tM_n M.1 b1 b2 hx (z0 ⟨rfl, hR⟩)))
    · exact htM_n (fun q u1 u2 u3 => h1 ⟨q, u1, u2, u3⟩) (z0 ⟨rfl, hR⟩)
theorem st_round : Step_round Rel := by
  intro tc cl tr g tc' cl' tr' g' a1 a2 a3 hR
  obtain ⟨n, k, lt, c, wt, A, X, M, e⟩ := id hR
  unfold wX_round
  by_cases h3 : ∃ i, i < 2 ∧ a3 = nI i
  · obtain ⟨r, hr, rfl⟩ := h3
    refine kX_y hr (z1 ?_)
    by_cases h1 : ∃ q, 1 ≤ q ∧ q ≤ 3 ∧ a1 = nI q
    · obtain ⟨q, q1, q3, rfl⟩ := h1
      refine rfX A X q1 q3 (fun v g3 hg3 hd3 => y1 ?_) (fun v g3 hg3 => y0 ?_)
      · refine tdX A (X.keep (fun a ha => hg3 a (by omega))) hr hd3 (fun g4 hg4 hd4 => ?_)
        refine ndX A (X.keep (fun a ha => by rw [hg4 a (by omega), hg3 a (by omega)])) hd4 ?_
        refine htM_y q1 q3 (z1 ?_)
        refine kM_y hr (z1 ?_)
        refine tkM A M q1 q3 (fun _ g4' hg4' hd4' => y1 ?_) (fun v' => absurd v v')
        refine tdM A (M.keep (fun a ha => hg4' a (by omega))) hr hd4' (fun g5 hg5 hd5 => ?_)
        refine ndM A (M.keep (fun a ha => by rw [hg5 a (by omega), hg4' a (by omega)])) hd5 ⟨rfl, ?_⟩
        exact Rel.scrX A X M e (fun a ha => by rw [hg4 a (by omega), hg3 a (by omega)]) (fun a ha => by rw [hg5 a (by omega), hg4' a (by omega)])
      · refine htM_y q1 q3 (z1 ?_)
        refine kM_y hr (z1 ?_)
        exact tkM A M q1 q3 (fun v' => absurd v' v) (fun _ g4' hg4' => y0 ⟨rfl, Rel.scrX A X M e (fun a ha => hg3 a (by omega)) (fun a ha => hg4' a (by omega))⟩)
    · have hx : ∀ q, 1 ≤ q → q ≤ 3 → a1 ≠ nI q := fun q u1 u2 u3 => h1 ⟨q, u1, u2, u3⟩
      unfold wX_readFilling
      exact htX_n hx (z0 (y0 (htM_n hx (z0 ⟨rfl, hR⟩))))
  · have hx : ∀ j, j < 2 → a3 ≠ nI j := fun j hj q => h3 ⟨j, hj, q⟩
    refine kX_n hx (z0 ?_)
    by_cases h1 : ∃ q, 1 ≤ q ∧ q ≤ 3 ∧ a1 = nI q
    · obtain ⟨q, q1, q3, rfl⟩ := h1
      exact htM_y q1 q3 (z1 (kM_n hx (z0 ⟨rfl, hR⟩)))
    · exact htM_n (fun q u1 u2 u3 => h1 ⟨q, u1, u2, u3⟩) (z0 ⟨rfl, hR⟩)
/-- the digits behind t turns -/
def itd (n k : Nat) (lt : Nat → Nat → Bool) (h : Int32) (c : Nat → Nat) (q : Nat) (d : Nat → Int32) : Nat → Nat → Int32
  | 0 => d
  | t + 1 => tdq n k lt h c q (itd n k lt h c q d t)
def IsP (N : Nat → Int32) (x r : Int32) : Prop := (∃ t, 1 ≤ t ∧ t ≤ 1000 ∧ r = nI t ∧ N t = x ∧ ∀ s, 1 ≤ s → s < t → N s ≠ x) ∨ (r = -9 ∧ ∀ s, 1 ≤ s → s ≤ 1000 → N s ≠ x)
theorem IsP_one {N : Nat → Int32} {x r r' : Int32} (h : IsP N x r) (h' : IsP N x r') : r = r' := by
  rcases h with ⟨t, a1, a2, a3, a4, a5⟩ | ⟨a1, a2⟩ <;> rcases h' with ⟨t', b1, b2, b3, b4, b5⟩ | ⟨b1, b2⟩
  · have : t = t' := by
      rcases Nat.lt_trichotomy t t' with q | q | q
      · exact absurd a4 (b5 t a1 q)
      · exact q
      · exact absurd b4 (a5 t' b1 q)
    rw [a3, b3, this]
  · exact absurd a4 (b2 t a1 a2)
  · exact absurd b4 (a2 t' b1 b2)
  · rw [a1, b1]
theorem st_period : Step_period Rel := by
  intro tc cl tr g tc' cl' tr' g' a1 a2 a3 hR
  obtain ⟨n, k, lt, c, wt, A, X, M, e⟩ := id hR
  unfold wX_period
  by_cases h3 : ∃ i, i < 2 ∧ a3 = nI i
  · obtain ⟨r, hr, rfl⟩ := h3
    refine kX_y hr (z1 ?_)
    by_cases h1 : ∃ q, 1 ≤ q ∧ q ≤ 3 ∧ a1 = nI q
    · obtain ⟨q, q1, q3, rfl⟩ := h1
      refine rfX A X q1 q3 (fun v g3 hg3 hd3 => y1 ?_) (fun v g3 hg3 => y0 ?_)
      · -- both go on till it is back, or a thousand turns are through
        have mm : ∀ (rr : Int32) (gg : Sg), IsP (fun t => nbd (nI q + 1) n (itd n k lt (nI q) c r (dgt (nI q + 1) a2) t) n) a2 rr → (∀ a, a < 7 → gg a = g a) → wM_period (fun r' g2' => rr = r' ∧ Rel tc cl tr gg tc' cl' tr' g2') tc' cl' tr' g' (nI q) a2 (nI r) := by
          intro rr gg hP hgg
          refine htM_y q1 q3 (z1 ?_)
          refine kM_y hr (z1 ?_)
          refine tkM A M q1 q3 (fun _ g4' hg4' hd4' => y1 ?_) (fun v' => absurd v v')
          have hne : ¬ (-1 : Int32) = a2 := fun z => v.1 (by rw [← z]; decide)
          refine Lp3_up (fun t x4 x5 g5 => x4 = nI t ∧ (∀ a, a ≠ 7 → g5 a = g' a) ∧ (∀ j, j < n → g5 7 j = itd n k lt (nI q) c r (dgt (nI q + 1) a2) t j) ∧ (∀ s, 1 ≤ s → s < t → nbd (nI q + 1) n (itd n k lt (nI q) c r (dgt (nI q + 1) a2) s) n ≠ a2) ∧ (t = 0 ∧ ¬ x5 = a2 ∨ 1 ≤ t ∧ x5 = nbd (nI q + 1) n (itd n k lt (nI q) c r (dgt (nI q + 1) a2) t) n)) 1000 ?_ 0 0 (-1) g4' (Nat.zero_le _) ⟨rfl, hg4', hd4', fun s s1 s2 => by omega, Or.inl ⟨rfl, hne⟩⟩
          rintro t x4 x5 g5 ht ⟨rfl, hg5, hd5, hbef, hx5⟩ B hB
          have rel : Rel tc cl tr gg tc' cl' tr' g5 := Rel.scrX A X M e hgg (fun a ha => hg5 a (by omega))
          have hnow : ¬ x5 = a2 → ∀ s, 1 ≤ s → s < t + 1 → nbd (nI q + 1) n (itd n k lt (nI q) c r (dgt (nI q + 1) a2) s) n ≠ a2 := by
            intro z s s1 s2
            rcases Nat.lt_succ_iff_lt_or_eq.mp s2 with w | w
            · exact hbef s s1 w
            · subst w
              rcases hx5 with ⟨w1, -⟩ | ⟨-, w2⟩
              · omega
              · rw [← w2]; exact z
          unfold wM_period_b31
          refine ⟨fun z => ⟨fun z2 => absurd z z2, fun _ => ⟨IsP_one hP (Or.inl ?_), rel⟩⟩, fun z => br_le (a := 1000) (b := t) (by decide) (by omega) (fun w => ⟨fun _ => ⟨IsP_one hP (Or.inr ⟨rfl, fun s s1 s2 => hnow z s s1 (by omega)⟩), rel⟩, fun z2 => absurd z2 z⟩) (fun hlt => ?_)⟩
          · rcases hx5 with ⟨-, w⟩ | ⟨w1, w2⟩
            · exact absurd z w
            · exact ⟨t, w1, ht, rfl, w2.symm.trans z, hbef⟩
          · refine tdM A (M.keep (fun a ha => hg5 a (by omega))) hr hd5 (fun g6 hg6 hd6 => ?_)
            refine ndM A (M.keep (fun a ha => by rw [hg6 a (by omega), hg5 a (by omega)])) hd6 ?_
            exact hB _ _ _ hlt ⟨nI_1 t, fun a ha => by rw [hg6 a ha, hg5 a ha], hd6, hnow z, Or.inr ⟨by omega, rfl⟩⟩
        refine Lp2_up (fun t x4 g5 => x4 = nI (t + 1) ∧ (∀ a, a ≠ 7 → g5 a = g a) ∧ (∀ j, j < n → g5 7 j = itd n k lt (nI q) c r (dgt (nI q + 1) a2) t j) ∧ ∀ s, 1 ≤ s → s ≤ t → nbd (nI q + 1) n (itd n k lt (nI q) c r (dgt (nI q + 1) a2) s) n ≠ a2) 1000 ?_ 0 1 g3 (Nat.zero_le _) ⟨rfl, hg3, hd3, fun s s1 s2 => by omega⟩
        rintro t x4 g5 ht ⟨rfl, hg5, hd5, hbef⟩ B hB
        unfold wX_period_b21
        refine br_lt (a := 1000) (b := t + 1) (by decide) (by omega) (fun w => mm _ g5 (Or.inr ⟨rfl, fun s s1 s2 => hbef s s1 (by omega)⟩) (fun a ha => hg5 a (by omega))) (fun w => ?_)
        refine tdX A (X.keep (fun a ha => hg5 a (by omega))) hr hd5 (fun g6 hg6 hd6 => ?_)
        refine ndX A (X.keep (fun a ha => by rw [hg6 a (by omega), hg5 a (by omega)])) hd6 ?_
        refine ⟨fun z => hB _ _ (by omega) ⟨nI_1 (t + 1), fun a ha => by rw [hg6 a ha, hg5 a ha], hd6, fun s s1 s2 => ?_⟩, fun z => mm _ g6 (Or.inl ⟨t + 1, by omega, by omega, rfl, z, fun s s1 s2 => hbef s s1 (by omega)⟩) (fun a ha => by rw [hg6 a (by omega), hg5 a (by omega)])⟩
        rcases Nat.le_succ_iff.mp s2 with y | y
        · exact hbef s s1 y
        · subst y; exact z
      · refine htM_y q1 q3 (z1 ?_)
        refine kM_y hr (z1 ?_)
        exact tkM A M q1 q3 (fun v' => absurd v' v) (fun _ g4' hg4' => y0 ⟨rfl, Rel.scrX A X M e (fun a ha => hg3 a (by omega)) (fun a ha => hg4' a (by omega))⟩)
    · have hx : ∀ q, 1 ≤ q → q ≤ 3 → a1 ≠ nI q := fun q u1 u2 u3 => h1 ⟨q, u1, u2, u3⟩
      unfold wX_readFilling
      exact htX_n hx (z0 (y0 (htM_n hx (z0 ⟨rfl, hR⟩))))
  · have hx : ∀ j, j < 2 → a3 ≠ nI j := fun j hj q => h3 ⟨j, hj, q⟩
    refine kX_n hx (z0 ?_)
    by_cases h1 : ∃ q, 1 ≤ q ∧ q ≤ 3 ∧ a1 = nI q
    · obtain ⟨q, q1, q3, rfl⟩ := h1
      exact htM_y q1 q3 (z1 (kM_n hx (z0 ⟨rfl, hR⟩)))
    · exact htM_n (fun q u1 u2 u3 => h1 ⟨q, u1, u2, u3⟩) (z0 ⟨rfl, hR⟩)
