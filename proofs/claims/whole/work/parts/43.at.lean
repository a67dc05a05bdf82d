/-! AT a root; COUNT. -/
theorem dn_step (m : Nat) : (nI (m + 1) - 1) + (-1) = nI m - 1 := by rw [nI_pred, Int32.sub_eq_add_neg]
theorem dn_neg : nI 0 - 1 < 0 := by decide
theorem dn_pos {m : Nat} (h : m < 2 ^ 31) : ¬ nI (m + 1) - 1 < 0 := by rw [nI_pred]; exact nI_pos h
theorem sarX {P : Int32 → Sg → Prop} {n k : Nat} {lt : Nat → Nat → Bool} {c : Nat → Nat} {wt : Nat → Int32} {tc cl : Int32} {tr : Int64} {g : Sg} (A : AS n k lt c wt) (R : RX n k lt c wt tc cl g) {x1 rr : Int32}
    (h : ∀ g2 : Sg, (∀ a, a < 7 → g2 a = g a) → P (if x1 = 1 then (hor (fun j => nI (cs n lt j)) rr n (n + 1)).1 + (hor (fun j => nI (cs n lt j)) rr n (n + 1)).2 else if x1 = 2 then (hor (fun j => nI (cs n lt j)) rr n (n + 1)).1 - (hor (fun j => nI (cs n lt j)) rr n (n + 1)).2 else if (hor (fun j => nI (cs n lt j)) rr n (n + 1)).2 = 0 then (hor (fun j => nI (cs n lt j)) rr n (n + 1)).1 else -1000000) g2) : wX_sumAtRoot P tc cl tr g x1 rr := by
  have b2 := A.2.1
  have etc := R.1
  subst etc
  refine czX A R (fun g3 hg hc => ?_)
  refine Lp4_up (fun i x3 x4 x5 g0 => x5 = nI (n + 1 - i) - 1 ∧ x3 = (hor (fun j => nI (cs n lt j)) rr n i).1 ∧ x4 = (hor (fun j => nI (cs n lt j)) rr n i).2 ∧ g0 = g3) (n + 1) ?_ 0 0 0 (nI n) g3 (Nat.zero_le _) ⟨(nI_pred n).symm, rfl, rfl, rfl⟩
  rintro i x3 x4 x5 g0 hi ⟨rfl, rfl, rfl, rfl⟩ B hB
  unfold wX_sumAtRoot_b15
  rcases Nat.lt_or_ge i (n + 1) with hlt | hge
  · obtain ⟨m, hm⟩ : ∃ m, n + 1 - i = m + 1 := ⟨n - i, by omega⟩
    rw [hm]
    refine ⟨fun u => absurd u (dn_pos (by omega)), fun _ x6 e6 => ⟨?_, fun y ey => ?_⟩⟩
    · rw [nI_pred]; exact vp_in_nI (by omega) (by decide)
    · refine hB _ _ _ _ hlt ⟨by rw [dn_step, show n + 1 - (i + 1) = m by omega], ?_, by rw [e6]; rfl, rfl⟩
      rw [ey, nI_pred, nI_clamp (by omega), hc m (by omega)]
      show _ = nI (cs n lt (n - i)) - _
      rw [show n - i = m by omega]
  · have ei : i = n + 1 := by omega
    subst ei
    rw [Nat.sub_self]
    refine ⟨fun _ => ?_, fun u => absurd dn_neg u⟩
    have h2 := h g0 (fun a ha => hg a (by omega))
    refine ⟨fun u => ⟨fun v => ⟨fun w => ?_, fun w => ?_⟩, fun v => ?_⟩, fun u => ?_⟩
    · rw [if_neg u, if_neg v, if_neg w] at h2; exact h2
    · rw [if_neg u, if_neg v, if_pos w] at h2; exact h2
    · rw [if_neg u, if_pos v] at h2; exact h2
    · rw [if_pos u] at h2; exact h2
/-- M's rests, for a d that it takes -/
theorem reM {K : Sg → Prop} {P : Int32 → Sg → Prop} {n k : Nat} {lt : Nat → Nat → Bool} {c : Nat → Nat} {wt : Nat → Int32} {tc cl : Int32} {tr : Int64} {g : Sg} (A : AS n k lt c wt) (R : RM n k lt c wt tc cl g) {d : Nat} (h0 : 1 ≤ d) (h6 : d ≤ 6)
    (h : ∀ g2 : Sg, (∀ a, a < 4 → g2 a = g a) → (∀ j, j < 6 → g2 8 j = rsum (fun j => nI (cs n lt j)) d j (n + 1)) → K g2) : ∃ m, Lp2 (wM_at_b20 P tc cl tr (nI d) (fun (g_5 : Sg) => (∃ n_7, Lp2 (wM_at_b41 P tc cl tr (nI d) K) n_7 (0 : Int32) g_5))) m (0 : Int32) g := by
  have b2 := A.2.1
  have etc := R.1
  subst etc
  refine Lp2_up (fun i x2 g0 => x2 = nI i ∧ (∀ a, a < 4 → g0 a = g a) ∧ ∀ j, j < i → g0 8 j = 0) 6 ?_ 0 0 g (Nat.zero_le _) ⟨rfl, fun _ _ => rfl, fun j hj => absurd hj (Nat.not_lt_zero j)⟩
  rintro i x2 g0 hi ⟨rfl, hg, hz⟩ B hB
  unfold wM_at_b20
  refine br_le (a := 6) (b := i) (by decide) (by omega) (fun u => ?_) (fun hlt => ⟨vp_in_nI hlt (by decide), fun g1 e1 => hB _ _ hlt ⟨nI_1 i, fun a ha => ?_, fun j hj => ?_⟩⟩)
  · refine Lp2_up (fun j x2 g1 => x2 = nI j ∧ (∀ a, a < 4 → g1 a = g a) ∧ ∀ a, a < 6 → g1 8 a = rsum (fun j => nI (cs n lt j)) d a j) (n + 1) ?_ 0 0 g0 (Nat.zero_le _) ⟨rfl, hg, fun a ha => by rw [hz a (by omega)]; rfl⟩
    rintro j x2 g1 hj ⟨rfl, hg1, hr⟩ B2 hB2
    unfold wM_at_b41
    refine br_lt (by omega) (by omega) (fun v => ?_) (fun hlt => ⟨nI_ne0 (by omega) (by omega), ?_⟩)
    · have ej : j = n + 1 := by omega
      subst ej
      exact h g1 hg1 hr
    · rw [pk_rem (by omega) (by omega) (by omega)]
      have hmod := Nat.mod_lt j (show 0 < d by omega)
      have hin : vp_in (nI (j % d)) 6 := vp_in_nI (by omega) (by decide)
      refine ⟨hin, coM A (R.keep hg1) (by omega) ⟨hin, fun g3 e3 => hB2 _ _ (by omega) ⟨nI_1 j, fun a ha => ?_, fun a ha => ?_⟩⟩⟩
      · rw [e3, up2_ne _ _ _ (by omega)]; exact hg1 a ha
      · rw [nI_clamp (by omega)] at e3
        rw [e3, up2_same, rsum]
        by_cases ha2 : a = j % d
        · subst ha2
          rw [upd_eq, hr _ ha]; simp
        · rw [upd_ne _ _ ha2, hr a ha]; simp [Ne.symm ha2]
  · rw [e1, up2_ne _ _ _ (by omega)]; exact hg a ha
  · rw [nI_clamp (by omega)] at e1
    rw [e1, up2_same]
    rcases Nat.lt_succ_iff_lt_or_eq.mp hj with v | v
    · rw [upd_ne _ _ (by omega)]; exact hz j v
    · subst v; rw [upd_eq]
theorem cl_ (m : Nat) (h : m < 6) : (nI m).toNatClampNeg = m := nI_clamp (by omega)
theorem sub0 {a b : Int32} : a - b = 0 ↔ a = b := by
  constructor
  · intro h; grind
  · intro h; grind
theorem st_at : Step_at Rel := by
  intro tc cl tr g tc' cl' tr' g' a1 hR
  obtain ⟨n, k, lt, c, wt, A, X, M, e⟩ := id hR
  obtain ⟨b1, b2, -⟩ := id A
  have rel : ∀ g2 g2' : Sg, (∀ a, a < 7 → g2 a = g a) → (∀ a, a < 4 → g2' a = g' a) → Rel tc cl tr g2 tc' cl' tr' g2' := fun g2 g2' h1 h2 => Rel.scrX A X M e h1 h2
  have c0 : ((0 : Int32)).toNatClampNeg = 0 := cl_ 0 (by decide)
  have c1 : ((1 : Int32)).toNatClampNeg = 1 := cl_ 1 (by decide)
  have c2 : ((2 : Int32)).toNatClampNeg = 2 := cl_ 2 (by decide)
  have c3 : ((3 : Int32)).toNatClampNeg = 3 := cl_ 3 (by decide)
  have c4 : ((4 : Int32)).toNatClampNeg = 4 := cl_ 4 (by decide)
  have c5 : ((5 : Int32)).toNatClampNeg = 5 := cl_ 5 (by decide)
  have i0 : vp_in (0 : Int32) 6 := vp_in_nI (n := 0) (by decide) (by decide)
  have i1 : vp_in (1 : Int32) 6 := vp_in_nI (n := 1) (by decide) (by decide)
  have i2 : vp_in (2 : Int32) 6 := vp_in_nI (n := 2) (by decide) (by decide)
  have i3 : vp_in (3 : Int32) 6 := vp_in_nI (n := 3) (by decide) (by decide)
  have i4 : vp_in (4 : Int32) 6 := vp_in_nI (n := 4) (by decide) (by decide)
  have i5 : vp_in (5 : Int32) 6 := vp_in_nI (n := 5) (by decide) (by decide)
  by_cases hd : ∃ d, 1 ≤ d ∧ d ≤ 6 ∧ d ≠ 5 ∧ a1 = nI d
  · obtain ⟨d, d1, d6, d5, rfl⟩ := hd
    rcases (show d = 1 ∨ d = 2 ∨ d = 3 ∨ d = 4 ∨ d = 6 by omega) with rfl | rfl | rfl | rfl | rfl
    · refine ⟨fun _ => ?_, fun u => absurd u (by decide), fun u => absurd u (by decide), fun u => absurd u (by decide), fun u => absurd u (by decide), fun u => absurd rfl u⟩
      refine sarX A X (fun g2 hg2 => ?_)
      rw [if_pos (show nI 1 = 1 from rfl), hor1 _ n b1 b2]
      refine inY (a := 1) (b := 6) (by omega) (by omega) (by decide) (z1 ⟨fun _ => ?_, fun u => absurd u (by decide)⟩)
      refine reM A M (by omega) (by omega) (fun g6 hg6 hr => ?_)
      rw [c0, hr 0 (by decide)]
      exact ⟨fun _ => ⟨i0, rfl, rel _ _ hg2 hg6⟩, fun u => absurd u (by decide), fun u => absurd u (by decide), fun u => absurd u (by decide), fun u => absurd rfl u⟩
    · refine ⟨fun u => absurd u (by decide), fun _ => ?_, fun u => absurd u (by decide), fun u => absurd u (by decide), fun u => absurd u (by decide), fun _ u => absurd rfl u⟩
      refine sarX A X (fun g2 hg2 => ?_)
      rw [if_neg (show ¬ nI 2 = 1 by decide), if_pos (show nI 2 = 2 from rfl), hor2 _ n b1 b2]
      refine inY (a := 1) (b := 6) (by omega) (by omega) (by decide) (z1 ⟨fun _ => ?_, fun u => absurd u (by decide)⟩)
      refine reM A M (by omega) (by omega) (fun g6 hg6 hr => ?_)
      rw [c0, c1, hr 0 (by decide), hr 1 (by decide)]
      exact ⟨fun u => absurd u (by decide), fun _ => ⟨i0, i1, rfl, rel _ _ hg2 hg6⟩, fun u => absurd u (by decide), fun u => absurd u (by decide), fun _ u => absurd rfl u⟩
    · refine ⟨fun u => absurd u (by decide), fun u => absurd u (by decide), fun _ => ?_, fun u => absurd u (by decide), fun u => absurd u (by decide), fun _ _ u => absurd rfl u⟩
      refine sarX A X (fun g2 hg2 => ?_)
      obtain ⟨hW, hT⟩ := hor3 (fun j => nI (cs n lt j)) n b1 b2
      rw [if_neg (show ¬ nI 3 = 1 by decide), if_neg (show ¬ nI 3 = 2 by decide), hW, hT]
      refine inY (a := 1) (b := 6) (by omega) (by omega) (by decide) (z1 ⟨fun _ => ?_, fun u => absurd u (by decide)⟩)
      refine reM A M (by omega) (by omega) (fun g6 hg6 hr => ?_)
      rw [c0, c1, c2, c3, c4, c5, hr 0 (by decide), hr 1 (by decide), hr 2 (by decide)]
      refine ⟨fun u => absurd u (by decide), fun u => absurd u (by decide), fun _ => ⟨i1, i2, fun u => ⟨?_, rel _ _ hg2 hg6⟩, fun u => ⟨i0, i2, ?_, rel _ _ hg2 hg6⟩⟩, fun u => absurd u (by decide), fun _ _ u => absurd rfl u⟩
      · rw [if_neg (fun v => u (sub0.mp v))]
      · rw [if_pos (sub0.mpr u)]
    · refine ⟨fun u => absurd u (by decide), fun u => absurd u (by decide), fun u => absurd u (by decide), fun _ => ?_, fun u => absurd u (by decide), fun _ _ _ u => absurd rfl u⟩
      refine sarX A X (fun g2 hg2 => ?_)
      obtain ⟨hW, hT⟩ := hor4 (fun j => nI (cs n lt j)) n b1 b2
      rw [if_neg (show ¬ nI 4 = 1 by decide), if_neg (show ¬ nI 4 = 2 by decide), hW, hT]
      refine inY (a := 1) (b := 6) (by omega) (by omega) (by decide) (z1 ⟨fun _ => ?_, fun u => absurd u (by decide)⟩)
      refine reM A M (by omega) (by omega) (fun g6 hg6 hr => ?_)
      rw [c0, c1, c2, c3, c4, c5, hr 0 (by decide), hr 1 (by decide), hr 2 (by decide), hr 3 (by decide)]
      refine ⟨fun u => absurd u (by decide), fun u => absurd u (by decide), fun u => absurd u (by decide), fun _ => ⟨i1, i3, fun u => ⟨?_, rel _ _ hg2 hg6⟩, fun u => ⟨i0, i2, ?_, rel _ _ hg2 hg6⟩⟩, fun _ _ _ u => absurd rfl u⟩
      · rw [if_neg (fun v => u (sub0.mp v))]
      · rw [if_pos (sub0.mpr u)]
    · refine ⟨fun u => absurd u (by decide), fun u => absurd u (by decide), fun u => absurd u (by decide), fun u => absurd u (by decide), fun _ => ?_, fun _ _ _ _ u => absurd rfl u⟩
      refine sarX A X (fun g2 hg2 => ?_)
      obtain ⟨hW, hT⟩ := hor6 (fun j => nI (cs n lt j)) n b1 b2
      rw [if_neg (show ¬ nI 6 = 1 by decide), if_neg (show ¬ nI 6 = 2 by decide), hW, hT]
      refine inY (a := 1) (b := 6) (by omega) (by omega) (by decide) (z1 ⟨fun _ => ?_, fun u => absurd u (by decide)⟩)
      refine reM A M (by omega) (by omega) (fun g6 hg6 hr => ?_)
      rw [c0, c1, c2, c3, c4, c5, hr 0 (by decide), hr 1 (by decide), hr 2 (by decide), hr 3 (by decide), hr 4 (by decide), hr 5 (by decide)]
      refine ⟨fun u => absurd u (by decide), fun u => absurd u (by decide), fun u => absurd u (by decide), fun u => absurd u (by decide), fun _ _ _ _ => ⟨i1, i4, i2, i5, fun u => ⟨?_, rel _ _ hg2 hg6⟩, fun u => ⟨i0, i3, i2, i5, ?_, rel _ _ hg2 hg6⟩⟩⟩
      · rw [if_neg u]
      · rw [if_pos u]
  · have hx : ∀ d, 1 ≤ d → d ≤ 6 → d ≠ 5 → a1 ≠ nI d := fun d h1 h2 h3 q => hd ⟨d, h1, h2, h3, q⟩
    refine ⟨fun u => absurd u (hx 1 (by omega) (by omega) (by omega)), fun u => absurd u (hx 2 (by omega) (by omega) (by omega)), fun u => absurd u (hx 3 (by omega) (by omega) (by omega)), fun u => absurd u (hx 4 (by omega) (by omega) (by omega)), fun u => absurd u (hx 6 (by omega) (by omega) (by omega)), fun _ _ _ _ _ => ?_⟩
    by_cases h5 : a1 = nI 5
    · subst h5
      exact inY (a := 1) (b := 6) (by omega) (by omega) (by decide) (z1 ⟨fun u => absurd rfl u, fun _ => ⟨rfl, hR⟩⟩)
    · exact inN (a := 1) (b := 6) (by decide) (by decide) (fun i u1 u2 u3 => by
        by_cases hi : i = 5
        · subst hi; exact h5 u3
        · exact hx i u1 u2 hi u3) (z0 ⟨rfl, hR⟩)
/-- pairs, thing by thing -/
def psum (lt : Nat → Nat → Bool) : Nat → Nat
  | 0 => 0
  | i + 1 => psum lt i + ctn (fun j => lt j i) 8
theorem ctn_s (p : Nat → Bool) (n : Nat) : ctn p (n + 1) = ctn p n + (p n).toNat := by
  rw [ctn]; cases p n <;> rfl
theorem ctn_z (p : Nat → Bool) : ctn p 0 = 0 := rfl
theorem psum_more {lt : Nat → Nat → Bool} {n : Nat} (h : ∀ i j, n ≤ i → lt j i = false) : ∀ m, psum lt (n + m) = psum lt n
  | 0 => rfl
  | m + 1 => by rw [← Nat.add_assoc, psum, psum_more h m, ctn_0 (fun j _ => h (n + m) j (by omega))]; rfl
set_option maxRecDepth 10000 in
theorem psum_64 (lt : Nat → Nat → Bool) : psum lt 8 = ctn (fun x => lt (x / 8) (x % 8)) 64 := by
  simp only [psum, ctn_s, ctn_z, Nat.reduceDiv, Nat.reduceMod]
  omega
theorem st_count : Step_count Rel := by
  intro tc cl tr g tc' cl' tr' g' a1 hR
  obtain ⟨n, k, lt, c, wt, A, X, M, e⟩ := id hR
  obtain ⟨b1, b2, b3, hO, -, -⟩ := id A
  have hM2 : ∀ {P : Int32 → Prop}, P (nI (psum lt 8)) → ∃ m, Lp2 (wM_count_b40 P tc' cl' tr' g') m (0 : Int32) (0 : Int32) := by
    intro P hP
    refine Lp2_up (fun i x2 x3 => x3 = nI i ∧ x2 = nI (ctn (fun x => lt (x / 8) (x % 8)) i)) 64 ?_ 0 0 0 (Nat.zero_le _) ⟨rfl, rfl⟩
    rintro i x2 x3 hi ⟨rfl, rfl⟩ B hB
    unfold wM_count_b40 wM_count_j61
    refine br_le (a := 64) (b := i) (by decide) (by omega) (fun u => ?_) (fun hlt => ⟨vp_in_nI hlt (by decide), ?_⟩)
    · rw [show i = 64 by omega, ← psum_64]; exact hP
    · have hv := M.2.2.1 (i / 8) (i % 8) (by omega) (by omega)
      rw [show 8 * (i / 8) + i % 8 = i by omega] at hv
      rw [nI_clamp (by omega), hv]
      cases hl : lt (i / 8) (i % 8) with
      | false => exact z0 (fun x ex => hB _ _ hlt ⟨nI_1 i, by rw [ex, ctn, hl, Int32.add_zero]; rfl⟩)
      | true => exact z1 (fun x ex => hB _ _ hlt ⟨nI_1 i, by rw [ex, nI_1, ctn, hl]; rfl⟩)
  have hX2 : ∀ {P : Int32 → Prop}, P (nI (psum lt 8)) → wX_pairCount P tc cl tr g := by
    intro P hP
    refine Lp2_up (fun i x1 x2 => x2 = nI i ∧ x1 = nI (psum lt i)) n ?_ 0 0 0 (Nat.zero_le _) ⟨rfl, rfl⟩
    rintro i x1 x2 hi ⟨rfl, rfl⟩ B hB
    unfold wX_pairCount_b4
    rw [X.1]
    refine br_le (by omega) (by omega) (fun u => ?_) (fun hlt => ⟨vp_in_nI (by omega) (by decide), ?_⟩)
    · have := psum_more (lt := lt) (n := n) (fun i j hi => by
        cases hl : lt j i with
        | false => rfl
        | true => have := hO.1 j i hl; omega) (8 - n)
      rw [show n + (8 - n) = 8 by omega] at this
      rw [show i = n by omega, ← this]; exact hP
    · rw [nI_clamp (by omega), X.2.2.1 i (by omega)]
      refine bcP (mkS_lt _ 8) (fun x ex => hB _ _ hlt ⟨nI_1 i, ?_⟩)
      rw [ex, nI_add, psum]
      congr 2
      exact ctn_cong (fun j hj => by rw [mkS_bit]; simp [hj])
  refine ⟨fun u => ?_, fun u => ?_, fun u => ?_, fun u1 u2 u3 => ?_⟩
  · refine ⟨fun _ => ⟨by rw [X.1, M.1], hR⟩, fun v => absurd (u ▸ v) (by decide), fun v => absurd (u ▸ v) (by decide), fun v => absurd u v⟩
  · refine ⟨fun v => absurd (u ▸ v) (by decide), fun _ => ⟨by rw [X.2.1, M.2.1], hR⟩, fun v => absurd (u ▸ v) (by decide), fun _ v => absurd u v⟩
  · refine hX2 ⟨fun v => absurd (u ▸ v) (by decide), fun v => absurd (u ▸ v) (by decide), fun _ => hM2 ⟨rfl, hR⟩, fun _ _ v => absurd u v⟩
  · exact ⟨fun v => absurd v u1, fun v => absurd v u2, fun v => absurd v u3, fun _ _ _ => ⟨rfl, hR⟩⟩
