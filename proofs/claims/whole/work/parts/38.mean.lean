/-! SUMS over a round, common divisors, the mean. -/
noncomputable def osum (lt : Nat → Nat → Bool) (wt : Nat → Int32) (n q : Nat) (f : Nat → Nat) (S : Nat) : Nat → Int32
  | 0 => 0
  | t + 1 => osum lt wt n q f S t + ms lt wt q (itf f t S) n
theorem soX {P : Int32 → Prop} {n k : Nat} {lt : Nat → Nat → Bool} {c : Nat → Nat} {wt : Nat → Int32} {tc cl : Int32} {tr : Int64} {g : Sg} (A : AS n k lt c wt) (R : RX n k lt c wt tc cl g) {S q r L : Nat} (H : Hp n lt S) (hq : q < 2) (hr : r < 3) (hL : L ≤ 256) (h : P (osum lt wt n r (tn n k lt c q) S L)) : wX_sumOfOrbit P tc cl tr g (nI S) (nI L) (nI q) (nI r) := by
  have hh := itf_p (Mp_tn A q) H
  refine Lp3_up (fun i x5 x6 x7 => x7 = nI i ∧ x6 = nI (itf (tn n k lt c q) i S) ∧ x5 = osum lt wt n r (tn n k lt c q) S i) L ?_ 0 0 _ 0 (Nat.zero_le _) ⟨rfl, rfl, rfl⟩
  rintro i x5 x6 x7 hi ⟨rfl, rfl, rfl⟩ B hB
  unfold wX_sumOfOrbit_b9
  refine br_le (by omega) (by omega) (fun u => ?_) (fun hlt => ?_)
  · rw [show i = L by omega]; exact h
  · exact msX A R (hh i).1 hr (fun x e => tnX A R (hh i) hq (hB _ _ _ hlt ⟨nI_1 i, rfl, by rw [e]; rfl⟩))
theorem soM {P : Int32 → Prop} {n k : Nat} {lt : Nat → Nat → Bool} {c : Nat → Nat} {wt : Nat → Int32} {tc cl : Int32} {tr : Int64} {g : Sg} (A : AS n k lt c wt) (R : RM n k lt c wt tc cl g) {S q r : Nat} (H : Hp n lt S) (hq : q < 2) (hr : r < 3) (h : P (osum lt wt n r (tn n k lt c q) S (per (tn n k lt c q) S))) : wM_sumOf P tc cl tr g (nI S) (nI q) (nI r) := by
  have hMp := Mp_tn A q
  obtain ⟨p1, p2, p3, p4⟩ := per_spec hMp H
  have hp8 := pw8 A.2.1
  have hh := itf_p hMp H
  refine msM A R H.1 hr (tnM A R H hq ?_)
  refine Lp2_up (fun i x4 x5 => x4 = osum lt wt n r (tn n k lt c q) S (i + 1) ∧ x5 = nI (itf (tn n k lt c q) (i + 1) S)) (per (tn n k lt c q) S - 1) ?_ 0 _ _ (Nat.zero_le _) ⟨by rw [osum, osum, Int32.zero_add]; rfl, rfl⟩
  rintro i x4 x5 hi ⟨rfl, rfl⟩ B hB
  unfold wM_sumOf_b16
  have h2 := (hh (i + 1)).1
  have hS := H.1
  refine br_eq (a := itf (tn n k lt c q) (i + 1) S) (b := S) (by omega) (by omega) (fun u => ?_) (fun u => ?_)
  · have ei : per (tn n k lt c q) S = i + 1 := by
      rcases Nat.lt_or_ge (i + 1) (per (tn n k lt c q) S) with v | v
      · exact absurd u (p4 (i + 1) (by omega) v)
      · omega
    rw [← ei]; exact h
  · have hlt2 : i + 1 < per (tn n k lt c q) S := by
      rcases Nat.lt_or_ge (i + 1) (per (tn n k lt c q) S) with v | v
      · exact v
      · exact absurd (by rw [show i + 1 = per (tn n k lt c q) S by omega]; exact p3) u
    exact msM A R (hh (i + 1)).1 hr (fun x e => tnM A R (hh (i + 1)) hq (hB _ _ (by omega) ⟨by rw [e]; rfl, rfl⟩))
theorem cdX {P : Int32 → Prop} {a b : Nat} (ha : a < 2 ^ 31) (hb : b < 2 ^ 9) (hg : 1 ≤ Nat.gcd a b) (h : P (nI (Nat.gcd a b))) : wX_commonDivisor P (nI a) (nI b) := by
  unfold wX_commonDivisor
  refine Lp3_up (fun i x2 x3 x4 => ∃ u v j, x2 = nI u ∧ x3 = nI v ∧ x4 = nI i ∧ Nat.gcd u v = Nat.gcd a b ∧ u < 2 ^ 31 ∧ v < 2 ^ 31 ∧ u * v < 2 ^ j ∧ i + j ≤ 41 ∧ (i = 0 ∧ j ≤ 40 ∨ v < u)) 42 ?_ 0 _ _ 0 (Nat.zero_le _) ⟨a, b, 40, rfl, rfl, rfl, rfl, ha, by omega, ?_, by omega, Or.inl ⟨rfl, by omega⟩⟩
  · rintro i x2 x3 x4 hi ⟨u, v, j, rfl, rfl, rfl, e, hu, hv, huv, hij, hw⟩ B hB
    unfold wX_commonDivisor_b7
    refine br_le (a := 100) (b := i) (by decide) (by omega) (fun q => absurd q (by omega)) (fun _ => ?_)
    refine br_eq (a := v) (b := 0) (by omega) (by decide) (fun q => ?_) (fun q => ⟨fun r => q ((nI_eq (by omega) (by decide)).mp r), fun x5 e5 => ?_⟩)
    · subst q
      rw [Nat.gcd_zero_right] at e
      have hmax : (if (1 : Int32) < nI u then nI u else (1 : Int32)) = nI u := by
        rw [show (1 : Int32) = nI 1 from rfl]
        by_cases hu1 : u = 1
        · subst hu1; simp
        · rw [if_pos ((nI_ltI (by decide) hu).mpr (by omega))]
      rw [hmax, e]
      exact h
    · rw [pk_rem hu (by omega) hv] at e5
      have hr := Nat.mod_lt u (show 0 < v by omega)
      rcases Nat.lt_or_ge u v with hlt | hge
      · -- the first turn, the lesser first: a change of places
        have e0 : i = 0 ∧ j ≤ 40 := by
          rcases hw with w | w
          · exact w
          · omega
        have em : u % v = u := Nat.mod_eq_of_lt hlt
        refine hB _ _ _ (by omega) ⟨v, u % v, j, rfl, e5, nI_1 i, ?_, hv, by omega, ?_, by omega, Or.inr hr⟩
        · rw [Nat.gcd_comm v, ← Nat.gcd_rec, Nat.gcd_comm]; exact e
        · rw [em, Nat.mul_comm]; exact huv
      · have hj : 1 ≤ j := by
          rcases Nat.eq_zero_or_pos j with z | z
          · subst z
            have : 1 ≤ u * v := Nat.mul_pos (by omega) (by omega)
            omega
          · exact z
        refine hB _ _ _ (by omega) ⟨v, u % v, j - 1, rfl, e5, nI_1 i, ?_, hv, by omega, ?_, by omega, Or.inr hr⟩
        · rw [Nat.gcd_comm v, ← Nat.gcd_rec, Nat.gcd_comm]; exact e
        · have h2 : 2 * (u % v) ≤ u := by
            have h3 := Nat.div_add_mod u v
            have h4 : 1 ≤ u / v := (Nat.le_div_iff_mul_le (by omega)).mpr (by omega)
            have h5 : v ≤ v * (u / v) := Nat.le_mul_of_pos_right v h4
            omega
          have h6 : 2 * (v * (u % v)) ≤ u * v := by
            calc 2 * (v * (u % v)) = v * (2 * (u % v)) := by rw [Nat.mul_left_comm]
              _ ≤ v * u := Nat.mul_le_mul_left v h2
              _ = u * v := Nat.mul_comm v u
          have h7 : 2 ^ j = 2 * 2 ^ (j - 1) := by
            rw [show j = (j - 1) + 1 by omega, Nat.pow_succ, Nat.mul_comm]; rfl
          omega
  · have h1 : a * b ≤ 2 ^ 31 * b := Nat.mul_le_mul_right b (Nat.le_of_lt ha)
    have h2 : 2 ^ 31 * b < 2 ^ 31 * 2 ^ 9 := Nat.mul_lt_mul_of_pos_left hb (by decide)
    have h3 : (2 : Nat) ^ 31 * 2 ^ 9 = 2 ^ 40 := by decide
    omega
theorem fb_bmod {z : Int} (h1 : -2147483648 ≤ z) (h2 : z < 2147483648) : z.bmod (2 ^ 32) = z := by
  rw [Int.bmod_eq_of_le (by omega) (by omega)]
theorem fb_addI {x y : Int32} (h1 : -2147483648 ≤ x.toInt + y.toInt) (h2 : x.toInt + y.toInt < 2147483648) : (x + y).toInt = x.toInt + y.toInt := by
  rw [Int32.toInt_add, fb_bmod h1 h2]
theorem fb_subI {x y : Int32} (h1 : -2147483648 ≤ x.toInt - y.toInt) (h2 : x.toInt - y.toInt < 2147483648) : (x - y).toInt = x.toInt - y.toInt := by
  rw [Int32.toInt_sub, fb_bmod h1 h2]
theorem bd1 {w : Int32} {c1 c2 : Prop} [Decidable c1] [Decidable c2] (h : -9 ≤ w.toInt ∧ w.toInt ≤ 9) : -8 ≤ ((1 + (if c1 then 0 else w)) + (if c2 then 1 else 0) : Int32).toInt ∧ ((1 + (if c1 then 0 else w)) + (if c2 then 1 else 0) : Int32).toInt ≤ 11 := by
  have e1 : (1 : Int32).toInt = 1 := by decide
  have e0 : (0 : Int32).toInt = 0 := by decide
  have hw : -9 ≤ (if c1 then 0 else w : Int32).toInt ∧ (if c1 then 0 else w : Int32).toInt ≤ 9 := by
    split
    · omega
    · exact h
  have hv : 0 ≤ (if c2 then 1 else 0 : Int32).toInt ∧ (if c2 then 1 else 0 : Int32).toInt ≤ 1 := by
    split <;> omega
  have ha : (1 + (if c1 then 0 else w) : Int32).toInt = 1 + (if c1 then 0 else w : Int32).toInt := by
    rw [fb_addI] <;> omega
  rw [fb_addI] <;> omega
theorem ms_bd {lt : Nat → Nat → Bool} {wt : Nat → Int32} (hw : ∀ i, i < 8 → -9 ≤ (wt i).toInt ∧ (wt i).toInt ≤ 9) (q S : Nat) : ∀ i : Nat, i ≤ 8 → -(11 * (i : Int)) ≤ (ms lt wt q S i).toInt ∧ (ms lt wt q S i).toInt ≤ 11 * (i : Int)
  | 0, _ => by
    have e0 : (0 : Int32).toInt = 0 := by decide
    rw [ms, e0]; decide
  | i + 1, h => by
    have ih := ms_bd (lt := lt) hw q S i (by omega)
    rw [ms]
    split
    · have hb := bd1 (w := wt i) (c1 := q = 0) (c2 := q = 2 ∧ edb lt S i = true) (hw i (by omega))
      rw [fb_addI] <;> omega
    · omega
theorem os_bd {n k : Nat} {lt : Nat → Nat → Bool} {c : Nat → Nat} {wt : Nat → Int32} (A : AS n k lt c wt) (q : Nat) (f : Nat → Nat) (S : Nat) : ∀ t : Nat, t ≤ 256 → -(88 * (t : Int)) ≤ (osum lt wt n q f S t).toInt ∧ (osum lt wt n q f S t).toInt ≤ 88 * (t : Int)
  | 0, _ => by
    have e0 : (0 : Int32).toInt = 0 := by decide
    rw [osum, e0]; decide
  | t + 1, h => by
    have ih := os_bd A q f S t (by omega)
    have h2 := ms_bd (lt := lt) A.2.2.2.2.2 q (itf f t S) n A.2.1
    have h3 := A.2.1
    rw [osum, fb_addI] <;> omega
theorem lgc_eq {x y : Int64} : lg_cmp x y = 0 ↔ x = y := by
  unfold lg_cmp
  by_cases h : x > y
  · simp only [h, ↓reduceIte]
    refine ⟨fun q => absurd q (by decide), fun q => ?_⟩
    subst q
    exact absurd h (Int64.lt_irrefl)
  · simp only [h, ↓reduceIte]
    by_cases e : x = y
    · simp [e]
    · simp only [e, ↓reduceIte]
      exact ⟨fun q => absurd q (by decide), fun q => absurd q (fun z => z)⟩
theorem lgc_ge {x y : Int64} : 0 ≤ lg_cmp x y ↔ y ≤ x := by
  unfold lg_cmp
  by_cases h : x > y
  · simp only [h, ↓reduceIte]
    exact ⟨fun _ => Int64.le_of_lt h, fun _ => by decide⟩
  · simp only [h, ↓reduceIte]
    by_cases e : x = y
    · subst e; simp
    · simp only [e, ↓reduceIte]
      refine ⟨fun q => absurd q (by decide), fun q => ?_⟩
      have h' : ¬ y < x := h
      rw [Int64.lt_iff_toInt_lt] at h'
      rw [Int64.le_iff_toInt_le] at q
      exact absurd (Int64.toInt_inj.mp (by omega)) e
theorem lgc_le {x y : Int64} : lg_cmp x y ≤ 0 ↔ x ≤ y := by
  unfold lg_cmp
  by_cases h : x > y
  · simp only [h, ↓reduceIte]
    refine ⟨fun q => absurd q (by decide), fun q => ?_⟩
    have h' : y < x := h
    rw [Int64.lt_iff_toInt_lt] at h'
    rw [Int64.le_iff_toInt_le] at q
    omega
  · simp only [h, ↓reduceIte]
    have h' : ¬ y < x := h
    by_cases e : x = y
    · subst e; simp
    · simp only [e, ↓reduceIte]
      refine ⟨fun _ => ?_, fun _ => by decide⟩
      rw [Int64.lt_iff_toInt_lt] at h'
      rw [Int64.le_iff_toInt_le]
      omega
/-- M's common divisor of two numbers -/
theorem cdM2 {P : Int64 → Prop} {a b : Nat} (ha : a < 2 ^ 62) (hb : b < 2 ^ 62) (h : P (lN (Nat.gcd a b))) : ∃ m, Lp2 (wM_common_b17 P) m (lN a) (lN b) := by
  refine Lp2_up (fun i x4 x6 => ∃ u v, x4 = lN u ∧ x6 = lN v ∧ Nat.gcd u v = Nat.gcd a b ∧ u < 2 ^ 62 ∧ v < 2 ^ 62 ∧ v + i ≤ b) b ?_ 0 _ _ (Nat.zero_le _) ⟨a, b, rfl, rfl, rfl, ha, hb, by omega⟩
  rintro i x4 x6 hi ⟨u, v, rfl, rfl, e, hu, hv, hvi⟩ B hB
  unfold wM_common_b17
  have hz : lN v = 0 ↔ v = 0 := by
    rw [show (0 : Int64) = lN 0 from rfl]; exact pk_lEQ (by omega) (by decide)
  refine ⟨fun q => ?_, fun q => ?_⟩
  · rw [lgc_eq, hz] at q
    subst q
    rw [Nat.gcd_zero_right] at e
    rw [e]; exact h
  · rw [lgc_eq] at q
    refine ⟨q, fun x8 e8 => ?_⟩
    rw [hz] at q
    rw [pk_lRem (by omega) (by omega) (by omega)] at e8
    have hr := Nat.mod_lt u (show 0 < v by omega)
    refine hB _ _ (by omega) ⟨v, u % v, rfl, e8, ?_, hv, by omega, by omega⟩
    rw [Nat.gcd_comm v, ← Nat.gcd_rec, Nat.gcd_comm]; exact e
theorem abs_ge {r : Int32} (h : 0 ≤ r.toInt) : r = nI r.toInt.natAbs := by
  apply Int32.toInt_inj.mp
  have := Int32.toInt_lt r
  rw [nI_toInt (by omega)]
  omega
theorem cdM {P : Int64 → Prop} {r : Int32} {b : Nat} (h1 : -2147483648 < r.toInt) (hb : b < 2 ^ 31) (h : P (lN (Nat.gcd r.toInt.natAbs b))) : wM_common P (Int32.toInt64 r) (Int32.toInt64 (nI b)) := by
  have hlt := Int32.toInt_lt r
  rw [nI_l hb]
  have e0 : (0 : Int64).toInt = 0 := by decide
  unfold wM_common wM_common_j12
  refine ⟨fun q => ?_, fun q => ?_⟩
  · rw [lgc_ge, Int64.le_iff_toInt_le, e0, Int32.toInt_toInt64] at q
    have e := abs_ge q
    have e2 : Int32.toInt64 r = lN r.toInt.natAbs := by
      calc Int32.toInt64 r = Int32.toInt64 (nI r.toInt.natAbs) := congrArg _ e
        _ = lN r.toInt.natAbs := nI_l (by omega)
    rw [e2]
    exact cdM2 (by omega) (by omega) h
  · rw [lgc_ge, Int64.le_iff_toInt_le, e0, Int32.toInt_toInt64] at q
    have e2 : -(Int32.toInt64 r) = lN r.toInt.natAbs := by
      apply Int64.toInt_inj.mp
      rw [pk_lT (by omega), Int64.toInt_neg, Int32.toInt_toInt64, Int.bmod_eq_of_le (by omega) (by omega)]
      omega
    rw [e2]
    exact cdM2 (by omega) (by omega) h
theorem absX {r : Int32} (h1 : -2147483648 < r.toInt) : (if 0 ≤ r then r else 0 - r) = nI r.toInt.natAbs := by
  have e0 : (0 : Int32).toInt = 0 := by decide
  have hlt := Int32.toInt_lt r
  by_cases h : 0 ≤ r
  · rw [if_pos h]
    rw [Int32.le_iff_toInt_le, e0] at h
    exact abs_ge h
  · rw [if_neg h]
    rw [Int32.le_iff_toInt_le, e0] at h
    apply Int32.toInt_inj.mp
    rw [nI_toInt (by omega), fb_subI (by omega) (by omega)]
    omega
theorem st_mean : Step_mean Rel := by
  intro tc cl tr g tc' cl' tr' g' a1 a2 a3 a4 hR
  obtain ⟨n, k, lt, c, wt, A, X, M, e⟩ := id hR
  have hp8 := pw8 A.2.1
  unfold wX_mean
  by_cases h1 : ∃ S, Hp n lt S ∧ a1 = nI S
  · obtain ⟨S, H, rfl⟩ := h1
    refine hX_y A X H (z1 ?_)
    by_cases h2 : ∃ j, j < 2 ∧ a2 = nI j
    · obtain ⟨q, hq, rfl⟩ := h2
      refine kX_y hq (z1 ?_)
      by_cases h3 : ∃ j, j < 3 ∧ a3 = nI j
      · obtain ⟨r, hr, rfl⟩ := h3
        refine mkX_y hr (z1 ?_)
        have hM3 : ∀ {P : Int32 → Prop}, P 1 → wM_in P (nI r) 0 2 := fun hP => inY (a := 0) (b := 2) (by omega) (by omega) (by decide) hP
        by_cases h4 : ∃ j, j < 2 ∧ a4 = nI j
        · obtain ⟨t, ht, rfl⟩ := h4
          refine ⟨fun u => absurd u (nI_pos (by omega)), fun _ => br_le (a := t) (b := 1) (by omega) (by decide) (fun _ => ?_) (fun u => absurd u (by omega))⟩
          obtain ⟨p1, p2, -, -⟩ := per_spec (Mp_tn A q) H
          refine wkX A X H hq (fun g2 hg _ => ?_)
          have X2 : RX n k lt c wt tc cl g2 := X.keep (fun a ha => hg a (by omega))
          refine soX A X2 H hq hr (by omega) ?_
          have hb := os_bd A r (tn n k lt c q) S (per (tn n k lt c q) S) (by omega)
          rw [absX (by omega)]
          have hlt := Int32.toInt_lt (osum lt wt n r (tn n k lt c q) S (per (tn n k lt c q) S))
          have hgpos : 1 ≤ Nat.gcd (osum lt wt n r (tn n k lt c q) S (per (tn n k lt c q) S)).toInt.natAbs (per (tn n k lt c q) S) := Nat.gcd_pos_of_pos_right _ (by omega)
          have hgle : Nat.gcd (osum lt wt n r (tn n k lt c q) S (per (tn n k lt c q) S)).toInt.natAbs (per (tn n k lt c q) S) ≤ per (tn n k lt c q) S := Nat.gcd_le_right _ (by omega)
          have hne : ¬ nI (Nat.gcd (osum lt wt n r (tn n k lt c q) S (per (tn n k lt c q) S)).toInt.natAbs (per (tn n k lt c q) S)) = 0 := nI_ne0 (by omega) (by omega)
          have rel : Rel tc cl tr g2 tc' cl' tr' g' := Rel.scrX A X M e (fun a ha => hg a (by omega)) (fun _ _ => rfl)
          have hM4 : ∀ {P : Int32 → Prop}, P 1 → wM_in P (nI t) 0 1 := fun hP => inY (a := 0) (b := 1) (by omega) (by omega) (by decide) hP
          refine cdX (by omega) (by omega) hgpos ?_
          refine br_ne (a := t) (b := 0) (by omega) (by decide) (fun u => ⟨hne, ?_⟩) (fun u => ⟨hne, ?_⟩)
          · refine hM_y A M H (z1 ?_)
            refine kM_y hq (z1 ?_)
            refine hM3 (z1 ?_)
            refine hM4 (y1 ?_)
            refine soM A M H hq hr ?_
            refine obM A M H hq ?_
            refine cdM (by omega) (by omega) (fun x7 e7 => ?_)
            rw [lN_i] at e7
            subst e7
            exact br_ne (a := t) (b := 0) (by omega) (by decide) (fun _ => ⟨hne, rfl, rel⟩) (fun v => absurd v u)
          · refine hM_y A M H (z1 ?_)
            refine kM_y hq (z1 ?_)
            refine hM3 (z1 ?_)
            refine hM4 (y1 ?_)
            refine soM A M H hq hr ?_
            refine obM A M H hq ?_
            refine cdM (by omega) (by omega) (fun x7 e7 => ?_)
            rw [lN_i] at e7
            subst e7
            exact br_ne (a := t) (b := 0) (by omega) (by decide) (fun v => absurd u v) (fun _ => ⟨hne, rfl, rel⟩)
        · have hx : ∀ j, j < 2 → a4 ≠ nI j := fun j hj q => h4 ⟨j, hj, q⟩
          have hm : wM_mean (fun r' => -1000000 = r' ∧ Rel tc cl tr g tc' cl' tr' g') tc' cl' tr' g' (nI S) (nI q) (nI r) a4 := hM_y A M H (z1 (kM_y hq (z1 (hM3 (z1 (inN (a := 0) (b := 1) (by decide) (by decide) (fun i _ u => hx i (by omega)) (y0 ⟨rfl, hR⟩)))))))
          refine ⟨fun _ => hm, fun u => ⟨fun v => ?_, fun _ => hm⟩⟩
          rcases int_out (a := 0) (b := 1) (by decide) (by decide) (fun i _ h2 => hx i (by omega)) with w | w
          · exact absurd w u
          · exact absurd v (Int32.not_le.mpr w)
      · have hx : ∀ j, j < 3 → a3 ≠ nI j := fun j hj q => h3 ⟨j, hj, q⟩
        exact mkX_n hx (z0 (hM_y A M H (z1 (kM_y hq (z1 (inN (a := 0) (b := 2) (by decide) (by decide) (fun i _ u => hx i (by omega)) (z0 ⟨rfl, hR⟩)))))))
    · have hx : ∀ j, j < 2 → a2 ≠ nI j := fun j hj q => h2 ⟨j, hj, q⟩
      exact kX_n hx (z0 (hM_y A M H (z1 (kM_n hx (z0 ⟨rfl, hR⟩)))))
  · have hx : ∀ S, Hp n lt S → a1 ≠ nI S := fun S hS q => h1 ⟨S, hS, q⟩
    exact hX_n A X hx (z0 (hM_n A M hx (z0 ⟨rfl, hR⟩)))
