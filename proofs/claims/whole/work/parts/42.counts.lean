/-! COUNTS by size, AT a root, pairs. -/
noncomputable def csb (n : Nat) (lt : Nat → Nat → Bool) (j S : Nat) : Bool := hpb n lt S && decide (ctn (fun i => S.testBit i) n = j)
noncomputable def cs (n : Nat) (lt : Nat → Nat → Bool) (j : Nat) : Nat := ctn (csb n lt j) (2 ^ n)
theorem czX {P : Sg → Prop} {n k : Nat} {lt : Nat → Nat → Bool} {c : Nat → Nat} {wt : Nat → Int32} {tc cl : Int32} {tr : Int64} {g : Sg} (A : AS n k lt c wt) (R : RX n k lt c wt tc cl g)
    (h : ∀ g2 : Sg, (∀ a, a ≠ 8 → g2 a = g a) → (∀ j, j ≤ n → g2 8 j = nI (cs n lt j)) → P g2) : wX_countSizes P tc cl tr g := by
  have hp8 := pw8 A.2.1
  have b2 := A.2.1
  have etc := R.1
  subst etc
  refine Lp2_up (fun i x1 g0 => x1 = nI i ∧ (∀ a, a ≠ 8 → g0 a = g a) ∧ ∀ j, j < i → g0 8 j = 0) (n + 1) ?_ 0 0 g (Nat.zero_le _) ⟨rfl, fun _ _ => rfl, fun j hj => absurd hj (Nat.not_lt_zero j)⟩
  rintro i x1 g0 hi ⟨rfl, hg, hz⟩ B hB
  unfold wX_countSizes_b2
  refine br_lt (by omega) (by omega) (fun u => ?_) (fun hlt => ⟨vp_in_nI (by omega) (by decide), fun g1 e1 => hB _ _ (by omega) ⟨nI_1 i, fun a ha => ?_, fun j hj => ?_⟩⟩)
  · refine Lp2_up (fun s x1 g1 => x1 = nI s ∧ (∀ a, a ≠ 8 → g1 a = g a) ∧ ∀ j, j ≤ n → g1 8 j = nI (ctn (csb n lt j) s)) (2 ^ n) ?_ 0 0 g0 (Nat.zero_le _) ⟨rfl, hg, fun j hj => by rw [hz j (by omega)]; rfl⟩
    rintro s x1 g1 hs ⟨rfl, hg1, hc⟩ B2 hB2
    have R1 : RX n k lt c wt (nI n) cl g1 := R.keep (fun a ha => hg1 a (by omega))
    unfold wX_countSizes_b25
    refine scX rfl b2 (br_le (by omega) (by omega) (fun v => ?_) (fun hlt2 => ?_))
    · have es : s = 2 ^ n := by omega
      subst es
      exact h g1 hg1 hc
    · refine hX A R1 (by omega) (fun Hs => z1 ?_) (fun Hs => z0 (hB2 _ _ hlt2 ⟨nI_1 s, hg1, fun j hj => by rw [hc j hj, ctn, csb, hpb_f.mpr Hs]; rfl⟩))
      have hsz := ctn_le (fun i => s.testBit i) n
      refine bcP (by omega) ?_
      rw [pc_n b2 Hs.1]
      refine ⟨vp_in_nI (by omega) (by decide), vp_in_nI (by omega) (by decide), fun g5 e5 => hB2 _ _ hlt2 ⟨nI_1 s, fun a ha => ?_, fun j hj => ?_⟩⟩
      · rw [e5, up2_ne _ _ _ ha]; exact hg1 a ha
      · rw [nI_clamp (by omega)] at e5
        rw [e5, up2_same]
        by_cases hj2 : j = ctn (fun i => s.testBit i) n
        · subst hj2
          rw [upd_eq, hc _ hj, nI_1, ctn, csb, hpb_t.mpr Hs]; simp
        · rw [upd_ne _ _ hj2, hc j hj, ctn, csb, hpb_t.mpr Hs]
          simp [Ne.symm hj2]
  · rw [e1, up2_ne _ _ _ ha]; exact hg a ha
  · rw [nI_clamp (by omega)] at e1
    rw [e1, up2_same]
    rcases Nat.lt_succ_iff_lt_or_eq.mp hj with v | v
    · rw [upd_ne _ _ (by omega)]; exact hz j v
    · subst v; rw [upd_eq]
theorem coM {P : Int32 → Prop} {n k : Nat} {lt : Nat → Nat → Bool} {c : Nat → Nat} {wt : Nat → Int32} {tc cl : Int32} {tr : Int64} {g : Sg} (A : AS n k lt c wt) (R : RM n k lt c wt tc cl g) {j : Nat} (hj : j ≤ 8) (h : P (nI (cs n lt j))) : wM_countOf P tc cl tr g (nI j) := by
  have hp8 := pw8 A.2.1
  have b2 := A.2.1
  have etc := R.1
  subst etc
  refine Lp2_up (fun s x2 x3 => x3 = nI s ∧ x2 = nI (ctn (csb n lt j) s)) (2 ^ n) ?_ 0 0 0 (Nat.zero_le _) ⟨rfl, rfl⟩
  rintro s x2 x3 hs ⟨rfl, rfl⟩ B hB
  unfold wM_countOf_b4
  rw [sh1 n (by omega)]
  refine br_le (by omega) (by omega) (fun v => ?_) (fun hlt => ?_)
  · have es : s = 2 ^ n := by omega
    subst es
    exact h
  refine Lp2_up (fun i x4 x5 => x5 = nI i ∧ x4 = nI (ctn (fun i => s.testBit i) i)) n ?_ 0 0 0 (Nat.zero_le _) ⟨rfl, rfl⟩
  rintro i x4 x5 hi ⟨rfl, rfl⟩ B2 hB2
  unfold wM_countOf_b20 wM_countOf_j45
  refine br_le (by omega) (by omega) (fun v => ?_) (fun hlt2 => ?_)
  · have ei : i = n := by omega
    subst ei
    have hsz := ctn_le (fun a => s.testBit a) i
    unfold wM_countOf_j73 wM_countOf_j74
    have h0 : ¬ (csb i lt j s = true) → ∀ x2_3 : Int32, x2_3 = nI (ctn (csb i lt j) s) + 0 → B x2_3 (nI s + 1) := fun u x e => hB _ _ hlt ⟨nI_1 s, by
      have u' : csb i lt j s = false := by simpa using u
      rw [e, ctn, u', Int32.add_zero]; rfl⟩
    refine br_ne (by omega) (by omega) (fun w => h0 (fun u => ?_)) (fun w => hM A R (by omega) (fun Hs => z1 (fun x e => hB _ _ hlt ⟨nI_1 s, ?_⟩)) (fun Hs => z0 (h0 (fun u => ?_))))
    · simp [csb] at u; exact w u.2
    · have u : csb i lt j s = true := by simp [csb, hpb_t.mpr Hs, w]
      rw [e, nI_1, ctn, u]; rfl
    · simp [csb, hpb_f.mpr Hs] at u
  · refine hasM (by omega) (by omega) ?_
    cases hb : s.testBit i with
    | false => exact z0 (fun x e => hB2 _ _ hlt2 ⟨nI_1 i, by rw [e, ctn, hb, Int32.add_zero]; rfl⟩)
    | true => exact z1 (fun x e => hB2 _ _ hlt2 ⟨nI_1 i, by rw [e, nI_1, ctn, hb]; rfl⟩)
theorem st_counts : Step_counts Rel := by
  intro tc cl tr g tc' cl' tr' g' a1 hR
  obtain ⟨n, k, lt, c, wt, A, X, M, e⟩ := id hR
  obtain ⟨b1, b2, -⟩ := id A
  have e1 := X.1
  have e2 := M.1
  subst e1 e2
  unfold wX_counts
  by_cases h1 : ∃ j, j ≤ n ∧ a1 = nI j
  · obtain ⟨j, hj, rfl⟩ := h1
    refine ⟨fun u => absurd u (nI_pos (by omega)), fun _ => br_le (by omega) (by omega) (fun _ => ?_) (fun u => absurd u (by omega))⟩
    refine czX A X (fun g2 hg hc => ⟨vp_in_nI (by omega) (by decide), ?_⟩)
    rw [nI_clamp (by omega), hc j hj]
    exact inY (a := 0) (by omega) hj (by omega) (z1 (coM A M (by omega) ⟨rfl, Rel.scrX A X M e (fun a ha => hg a (by omega)) (fun _ _ => rfl)⟩))
  · have hx : ∀ j, j ≤ n → a1 ≠ nI j := fun j hj q => h1 ⟨j, hj, q⟩
    have hm : wM_counts (fun r' => -1 = r' ∧ Rel (nI n) cl tr g (nI n) cl' tr' g') (nI n) cl' tr' g' a1 := inN (a := 0) (by omega) (by omega) (fun i _ u => hx i u) (z0 ⟨rfl, hR⟩)
    refine ⟨fun _ => hm, fun u => ⟨fun v => ?_, fun _ => hm⟩⟩
    rcases int_out (a := 0) (b := n) (by omega) (by omega) (fun i _ h2 => hx i h2) with w | w
    · exact absurd w u
    · exact absurd v (Int32.not_le.mpr w)
/-- Horner's row: whole and times -/
def hor (s : Nat → Int32) (rr : Int32) (n : Nat) : Nat → Int32 × Int32
  | 0 => (0, 0)
  | i + 1 => (s (n - i) - (hor s rr n i).2, (hor s rr n i).1 + rr * (hor s rr n i).2)
/-- the sum of those with the rest j by d -/
def rsum (s : Nat → Int32) (d j : Nat) : Nat → Int32
  | 0 => 0
  | k + 1 => if k % d = j then rsum s d j k + s k else rsum s d j k
theorem hor1 (s : Nat → Int32) : ∀ n, 1 ≤ n → n ≤ 8 → (hor s 2 n (n + 1)).1 + (hor s 2 n (n + 1)).2 = rsum s 1 0 (n + 1) := by
  intro n h1 h8
  rcases (show n = 1 ∨ n = 2 ∨ n = 3 ∨ n = 4 ∨ n = 5 ∨ n = 6 ∨ n = 7 ∨ n = 8 by omega) with rfl | rfl | rfl | rfl | rfl | rfl | rfl | rfl <;> simp [hor, rsum] <;> grind
theorem hor2 (s : Nat → Int32) : ∀ n, 1 ≤ n → n ≤ 8 → (hor s (-2) n (n + 1)).1 - (hor s (-2) n (n + 1)).2 = rsum s 2 0 (n + 1) - rsum s 2 1 (n + 1) := by
  intro n h1 h8
  rcases (show n = 1 ∨ n = 2 ∨ n = 3 ∨ n = 4 ∨ n = 5 ∨ n = 6 ∨ n = 7 ∨ n = 8 by omega) with rfl | rfl | rfl | rfl | rfl | rfl | rfl | rfl <;> simp [hor, rsum] <;> grind
theorem hor3 (s : Nat → Int32) : ∀ n, 1 ≤ n → n ≤ 8 → (hor s (-1) n (n + 1)).1 = rsum s 3 0 (n + 1) - rsum s 3 2 (n + 1) ∧ (hor s (-1) n (n + 1)).2 = rsum s 3 1 (n + 1) - rsum s 3 2 (n + 1) := by
  intro n h1 h8
  rcases (show n = 1 ∨ n = 2 ∨ n = 3 ∨ n = 4 ∨ n = 5 ∨ n = 6 ∨ n = 7 ∨ n = 8 by omega) with rfl | rfl | rfl | rfl | rfl | rfl | rfl | rfl <;> simp [hor, rsum] <;> grind
theorem hor4 (s : Nat → Int32) : ∀ n, 1 ≤ n → n ≤ 8 → (hor s 0 n (n + 1)).1 = rsum s 4 0 (n + 1) - rsum s 4 2 (n + 1) ∧ (hor s 0 n (n + 1)).2 = rsum s 4 1 (n + 1) - rsum s 4 3 (n + 1) := by
  intro n h1 h8
  rcases (show n = 1 ∨ n = 2 ∨ n = 3 ∨ n = 4 ∨ n = 5 ∨ n = 6 ∨ n = 7 ∨ n = 8 by omega) with rfl | rfl | rfl | rfl | rfl | rfl | rfl | rfl <;> simp [hor, rsum] <;> grind
theorem hor6 (s : Nat → Int32) : ∀ n, 1 ≤ n → n ≤ 8 → (hor s 1 n (n + 1)).1 = rsum s 6 0 (n + 1) - rsum s 6 3 (n + 1) - rsum s 6 2 (n + 1) + rsum s 6 5 (n + 1) ∧ (hor s 1 n (n + 1)).2 = rsum s 6 1 (n + 1) - rsum s 6 4 (n + 1) + rsum s 6 2 (n + 1) - rsum s 6 5 (n + 1) := by
  intro n h1 h8
  rcases (show n = 1 ∨ n = 2 ∨ n = 3 ∨ n = 4 ∨ n = 5 ∨ n = 6 ∨ n = 7 ∨ n = 8 by omega) with rfl | rfl | rfl | rfl | rfl | rfl | rfl | rfl <;> simp [hor, rsum] <;> grind
