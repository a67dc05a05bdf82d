/-! What is told of all rounds: by folds over their least heaps. -/
noncomputable def FS {α : Type} (b : Nat → Bool) (st : α → Nat → α) (a0 : α) : Nat → α
  | 0 => a0
  | s + 1 => if b s then st (FS b st a0 s) s else FS b st a0 s
/-- X goes by the places of its list: the value behind j of them is that of the heap that has j before it -/
theorem FS_at {α : Type} {b : Nat → Bool} {st : α → Nat → α} {a0 : α} : ∀ {s t : Nat}, s ≤ t → ctn b s = ctn b t → FS b st a0 t = FS b st a0 s := by
  intro s t hst
  induction t with
  | zero => intro _; rw [show s = 0 by omega]
  | succ t ih =>
    intro e
    rcases Nat.lt_or_ge s (t + 1) with q | q
    · have h1 := ctn_mono b (m := s) (t - s)
      rw [show s + (t - s) = t by omega] at h1
      rw [ctn] at e
      cases hb : b t with
      | true => rw [hb] at e; simp at e; omega
      | false =>
        rw [hb] at e
        simp at e
        rw [FS, hb]
        simp only [Bool.false_eq_true, ↓reduceIte]
        exact ih (by omega) e
    · rw [show s = t + 1 by omega]
theorem loX {P : Int32 → Prop} {n k : Nat} {lt : Nat → Nat → Bool} {c : Nat → Nat} {wt : Nat → Int32} {tc cl : Int32} {tr : Int64} {g : Sg} (A : AS n k lt c wt) {q : Nat} (hL : Ls (Hp n lt) (tn n k lt c q) (2 ^ n) g) (h : P (nI (FS (mnb (Hp n lt) (tn n k lt c q)) (fun a U => max a (per (tn n k lt c q) U)) 0 (2 ^ n)))) : wX_longestOf P tc cl tr g (nI (ctn (mnb (Hp n lt) (tn n k lt c q)) (2 ^ n))) := by
  have hMp := Mp_tn A q
  have hp8 := pw8 A.2.1
  have hcl := ctn_le (mnb (Hp n lt) (tn n k lt c q)) (2 ^ n)
  refine Lp2_up (fun j x2 x3 => x3 = nI j ∧ ∃ s, s ≤ 2 ^ n ∧ ctn (mnb (Hp n lt) (tn n k lt c q)) s = j ∧ x2 = nI (FS (mnb (Hp n lt) (tn n k lt c q)) (fun a U => max a (per (tn n k lt c q) U)) 0 s) ∧ FS (mnb (Hp n lt) (tn n k lt c q)) (fun a U => max a (per (tn n k lt c q) U)) 0 s ≤ 256) (ctn (mnb (Hp n lt) (tn n k lt c q)) (2 ^ n)) ?_ 0 0 0 (Nat.zero_le _) ⟨rfl, 0, by omega, rfl, rfl, by simp [FS]⟩
  rintro j x2 x3 hj ⟨rfl, s, hs, hcs, rfl, hb⟩ B hB
  unfold wX_longestOf_b4
  refine br_le (by omega) (by omega) (fun u => ?_) (fun hlt => ⟨vp_in_nI (by omega) (by decide), fun x e => ?_⟩)
  · rw [← FS_at hs (by omega)]; exact h
  · obtain ⟨U, hU, hmU, hcU⟩ := ctn_kth hlt
    obtain ⟨HU, -⟩ := mnb_t.mp hmU
    obtain ⟨p1, p2, -, -⟩ := per_spec hMp HU
    have hFS : FS (mnb (Hp n lt) (tn n k lt c q)) (fun a U => max a (per (tn n k lt c q) U)) 0 U = FS (mnb (Hp n lt) (tn n k lt c q)) (fun a U => max a (per (tn n k lt c q) U)) 0 s := by
      rcases Nat.lt_or_ge U s with v | v
      · have := ctn_lt v hmU; omega
      · exact FS_at v (by omega)
    rw [nI_clamp (by omega), ← hcU, (hL U hU hmU).2] at e
    have e2 : FS (mnb (Hp n lt) (tn n k lt c q)) (fun a U => max a (per (tn n k lt c q) U)) 0 (U + 1) = max (FS (mnb (Hp n lt) (tn n k lt c q)) (fun a U => max a (per (tn n k lt c q) U)) 0 s) (per (tn n k lt c q) U) := by
      rw [FS, hmU, hFS]; rfl
    refine hB _ _ hlt ⟨nI_1 j, U + 1, by omega, by rw [ctn, hmU, hcU]; rfl, ?_, by rw [e2]; omega⟩
    rw [e, e2]
    by_cases hlt2 : FS (mnb (Hp n lt) (tn n k lt c q)) (fun a U => max a (per (tn n k lt c q) U)) 0 s < per (tn n k lt c q) U
    · rw [if_pos ((nI_ltI (by omega) (by omega)).mpr hlt2), Nat.max_eq_right (by omega)]
    · rw [if_neg (fun v => hlt2 ((nI_ltI (by omega) (by omega)).mp v)), Nat.max_eq_left (by omega)]
/-- the order, as it grows: what is too great stays -/
noncomputable def ost (f : Nat → Nat) (o U : Nat) : Nat := if 1000000000 < o then o else o / Nat.gcd o (per f U) * per f U
theorem ost_eq {f : Nat → Nat} {o U : Nat} (h : o ≤ 1000000000) : ost f o U = o * (per f U / Nat.gcd o (per f U)) := by
  unfold ost
  rw [if_neg (by omega)]
  rw [Nat.div_mul_right_comm (Nat.gcd_dvd_left _ _), Nat.mul_div_assoc _ (Nat.gcd_dvd_right _ _)]
theorem ost_small {f : Nat → Nat} {o U : Nat} (h : o ≤ 1000000000) : ost f o U = o / Nat.gcd o (per f U) * per f U := by unfold ost; rw [if_neg (by omega)]
theorem ost_big {f : Nat → Nat} {o U : Nat} (h : 1000000000 < o) : ost f o U = o := by unfold ost; rw [if_pos h]
theorem FS_big {b : Nat → Bool} {f : Nat → Nat} {s : Nat} (h : 1000000000 < FS b (ost f) 1 s) : ∀ j, 1000000000 < FS b (ost f) 1 (s + j)
  | 0 => h
  | j + 1 => by
    have ih := FS_big h j
    rw [← Nat.add_assoc, FS]
    split
    · rw [ost_big ih]; exact ih
    · exact ih
theorem orX {P : Int32 → Prop} {n k : Nat} {lt : Nat → Nat → Bool} {c : Nat → Nat} {wt : Nat → Int32} {tc cl : Int32} {tr : Int64} {g : Sg} (A : AS n k lt c wt) {q : Nat} (hL : Ls (Hp n lt) (tn n k lt c q) (2 ^ n) g) (h : P (if 1000000000 < FS (mnb (Hp n lt) (tn n k lt c q)) (ost (tn n k lt c q)) 1 (2 ^ n) then -9 else nI (FS (mnb (Hp n lt) (tn n k lt c q)) (ost (tn n k lt c q)) 1 (2 ^ n)))) : wX_orderOf P tc cl tr g (nI (ctn (mnb (Hp n lt) (tn n k lt c q)) (2 ^ n))) := by
  have hMp := Mp_tn A q
  have hp8 := pw8 A.2.1
  have hcl := ctn_le (mnb (Hp n lt) (tn n k lt c q)) (2 ^ n)
  refine Lp2_up (fun j x2 x3 => x3 = nI j ∧ ∃ s, s ≤ 2 ^ n ∧ ctn (mnb (Hp n lt) (tn n k lt c q)) s = j ∧ x2 = nI (FS (mnb (Hp n lt) (tn n k lt c q)) (ost (tn n k lt c q)) 1 s) ∧ FS (mnb (Hp n lt) (tn n k lt c q)) (ost (tn n k lt c q)) 1 s ≤ 1000000000 ∧ 1 ≤ FS (mnb (Hp n lt) (tn n k lt c q)) (ost (tn n k lt c q)) 1 s) (ctn (mnb (Hp n lt) (tn n k lt c q)) (2 ^ n)) ?_ 0 1 0 (Nat.zero_le _) ⟨rfl, 0, by omega, rfl, rfl, by simp [FS], by simp [FS]⟩
  rintro j x2 x3 hj ⟨rfl, s, hs, hcs, rfl, hb, hb1⟩ B hB
  unfold wX_orderOf_b4
  refine br_le (by omega) (by omega) (fun u => ?_) (fun hlt => ⟨vp_in_nI (by omega) (by decide), vp_in_nI (by omega) (by decide), ?_⟩)
  · rw [FS_at hs (by omega), if_neg (by omega)] at h; exact h
  · obtain ⟨U, hU, hmU, hcU⟩ := ctn_kth hlt
    obtain ⟨HU, -⟩ := mnb_t.mp hmU
    obtain ⟨p1, p2, -, -⟩ := per_spec hMp HU
    have hFS : FS (mnb (Hp n lt) (tn n k lt c q)) (ost (tn n k lt c q)) 1 U = FS (mnb (Hp n lt) (tn n k lt c q)) (ost (tn n k lt c q)) 1 s := by
      rcases Nat.lt_or_ge U s with v | v
      · have := ctn_lt v hmU; omega
      · exact FS_at v (by omega)
    have e2 : FS (mnb (Hp n lt) (tn n k lt c q)) (ost (tn n k lt c q)) 1 (U + 1) = FS (mnb (Hp n lt) (tn n k lt c q)) (ost (tn n k lt c q)) 1 s * (per (tn n k lt c q) U / Nat.gcd (FS (mnb (Hp n lt) (tn n k lt c q)) (ost (tn n k lt c q)) 1 s) (per (tn n k lt c q) U)) := by
      rw [FS, hmU, hFS, ← ost_eq hb]; rfl
    generalize hoE : FS (mnb (Hp n lt) (tn n k lt c q)) (ost (tn n k lt c q)) 1 s = o at *
    rw [nI_clamp (by omega), ← hcU, (hL U hU hmU).2]
    have hg1 : 1 ≤ Nat.gcd o (per (tn n k lt c q) U) := Nat.gcd_pos_of_pos_right _ (by omega)
    have hg2 : Nat.gcd o (per (tn n k lt c q) U) ≤ per (tn n k lt c q) U := Nat.gcd_le_right _ (by omega)
    have hd1 : per (tn n k lt c q) U / Nat.gcd o (per (tn n k lt c q) U) ≤ per (tn n k lt c q) U := Nat.div_le_self _ _
    have hd2 : 1 ≤ per (tn n k lt c q) U / Nat.gcd o (per (tn n k lt c q) U) := (Nat.le_div_iff_mul_le (by omega)).mpr (by omega)
    refine cdX (by omega) (by omega) hg1 ⟨nI_ne0 (by omega) (by omega), fun x4 e4 x5 e5 => ?_⟩
    rw [pk_div (by omega) (by omega) (by omega)] at e4
    rw [e4, nI_l (by omega), nI_l (by omega), lN_mul] at e5
    have hm1 : o * (per (tn n k lt c q) U / Nat.gcd o (per (tn n k lt c q) U)) ≤ 1000000000 * 256 := Nat.mul_le_mul hb (by omega)
    have hm2 : 1 ≤ o * (per (tn n k lt c q) U / Nat.gcd o (per (tn n k lt c q) U)) := Nat.mul_pos (by omega) (by omega)
    generalize hmE : o * (per (tn n k lt c q) U / Nat.gcd o (per (tn n k lt c q) U)) = mm at *
    have hcmp : lg_cmp x5 1000000000 ≤ 0 ↔ mm ≤ 1000000000 := by
      rw [lgc_le, e5, show (1000000000 : Int64) = lN 1000000000 from rfl]
      exact pk_lLE (by omega) (by decide)
    refine ⟨fun v x2 ex => ?_, fun v => ?_⟩
    · rw [hcmp] at v
      rw [e5, lN_i] at ex
      exact hB _ _ hlt ⟨by rw [hcU]; exact nI_1 j, U + 1, by omega, by rw [ctn, hmU, hcU]; rfl, by rw [ex, e2], by omega, by omega⟩
    · rw [hcmp] at v
      have hbig := FS_big (b := mnb (Hp n lt) (tn n k lt c q)) (f := tn n k lt c q) (s := U + 1) (by omega) (2 ^ n - (U + 1))
      rw [show U + 1 + (2 ^ n - (U + 1)) = 2 ^ n by omega] at hbig
      rw [if_pos hbig] at h
      exact h
theorem cdML {P : Int64 → Prop} {a b : Nat} (ha : a < 2 ^ 62) (hb : b < 2 ^ 31) (h : P (lN (Nat.gcd a b))) : wM_common P (lN a) (Int32.toInt64 (nI b)) := by
  rw [nI_l hb]
  unfold wM_common wM_common_j12
  have hge : (0 : Int64) ≤ lN a := by rw [show (0 : Int64) = lN 0 from rfl]; exact (pk_lLE (by decide) (by omega)).mpr (by omega)
  exact ⟨fun _ => cdM2 ha (by omega) h, fun q => absurd (lgc_ge.mpr hge) q⟩
/-- M's orbits: what it has at the end -/
theorem obsM {K : Int32 → Int32 → Int64 → Sg → Prop} {P : Int32 → Sg → Prop} {x2 : Int32} {n k : Nat} {lt : Nat → Nat → Bool} {c : Nat → Nat} {wt : Nat → Int32} {tc cl : Int32} {tr : Int64} {g : Sg} (A : AS n k lt c wt) (R : RM n k lt c wt tc cl g) {q : Nat} (hq : q < 2) (h6 : ∀ T, T < 256 → g 6 T = 0)
    (h : ∀ g2 : Sg, (∀ a, a < 4 → g2 a = g a) → FS (mnb (Hp n lt) (tn n k lt c q)) (ost (tn n k lt c q)) 1 (2 ^ n) ≤ 256000000000 → K (nI (ctn (mnb (Hp n lt) (tn n k lt c q)) (2 ^ n))) (nI (FS (mnb (Hp n lt) (tn n k lt c q)) (fun a U => max a (per (tn n k lt c q) U)) 0 (2 ^ n))) (lN (FS (mnb (Hp n lt) (tn n k lt c q)) (ost (tn n k lt c q)) 1 (2 ^ n))) g2) : ∃ m, Lp5 (wM_orbits_b51 P tc cl tr (nI q) x2 K) m (0 : Int32) (0 : Int32) (1 : Int64) (0 : Int32) g := by
  have hMp := Mp_tn A q
  have hp8 := pw8 A.2.1
  have b2 := A.2.1
  refine Lp5_up (fun s x3 x4 x5 x7 g1 => x7 = nI s ∧ x3 = nI (ctn (mnb (Hp n lt) (tn n k lt c q)) s) ∧ x4 = nI (FS (mnb (Hp n lt) (tn n k lt c q)) (fun a U => max a (per (tn n k lt c q) U)) 0 s) ∧ x5 = lN (FS (mnb (Hp n lt) (tn n k lt c q)) (ost (tn n k lt c q)) 1 s) ∧ FS (mnb (Hp n lt) (tn n k lt c q)) (fun a U => max a (per (tn n k lt c q) U)) 0 s ≤ 256 ∧ FS (mnb (Hp n lt) (tn n k lt c q)) (ost (tn n k lt c q)) 1 s ≤ 256000000000 ∧ (∀ a, a < 4 → g1 a = g a) ∧ ∀ T, T < 256 → ((∃ U, U < s ∧ Hp n lt U ∧ inR (tn n k lt c q) U T) → g1 6 T = 1) ∧ (¬ (∃ U, U < s ∧ Hp n lt U ∧ inR (tn n k lt c q) U T) → g1 6 T = 0)) (2 ^ n) ?_ 0 0 0 1 0 g (Nat.zero_le _) ⟨rfl, rfl, rfl, rfl, by simp [FS], by simp [FS], fun _ _ => rfl, fun T hT => ⟨fun ⟨U, hU, _⟩ => absurd hU (Nat.not_lt_zero U), fun _ => h6 T hT⟩⟩
  rintro s x3 x4 x5 x7 g1 hs ⟨rfl, rfl, rfl, rfl, hb1, hb2, hg1, hm⟩ B hB
  have R1 : RM n k lt c wt tc cl g1 := R.keep hg1
  unfold wM_orbits_b51
  have etc := R1.1
  subst etc
  rw [sh1 n (by omega)]
  refine br_le (by omega) (by omega) (fun u => ?_) (fun hlt => ?_)
  · have es : s = 2 ^ n := by omega
    subst es
    exact h g1 hg1 hb2
  have hskip : mnb (Hp n lt) (tn n k lt c q) s = false → B (nI (ctn (mnb (Hp n lt) (tn n k lt c q)) s)) (nI (FS (mnb (Hp n lt) (tn n k lt c q)) (fun a U => max a (per (tn n k lt c q) U)) 0 s)) (lN (FS (mnb (Hp n lt) (tn n k lt c q)) (ost (tn n k lt c q)) 1 s)) (nI s + 1) g1 := by
    intro hmn
    have hcase : ¬ Hp n lt s ∨ ∃ U, U < s ∧ Hp n lt U ∧ inR (tn n k lt c q) U s := by
      apply Classical.byContradiction
      intro hc
      exact mnb_f.mp hmn ⟨Classical.byContradiction (fun r => hc (Or.inl r)), fun U h1 h2 h3 => hc (Or.inr ⟨U, h1, h2, h3⟩)⟩
    refine hB _ _ _ _ _ hlt ⟨nI_1 s, by rw [ctn, hmn]; rfl, by rw [FS, hmn]; rfl, by rw [FS, hmn]; rfl, by rw [FS, hmn]; exact hb1, by rw [FS, hmn]; exact hb2, hg1, fun T hT => ?_⟩
    have hiff : (∃ U, U < s + 1 ∧ Hp n lt U ∧ inR (tn n k lt c q) U T) ↔ (∃ U, U < s ∧ Hp n lt U ∧ inR (tn n k lt c q) U T) := by
      constructor
      · rintro ⟨U, hU, hU2, hU3⟩
        rcases Nat.lt_succ_iff_lt_or_eq.mp hU with v | v
        · exact ⟨U, v, hU2, hU3⟩
        · subst v
          rcases hcase with hc | ⟨V, hV, hV2, hV3⟩
          · exact absurd hU2 hc
          · exact ⟨V, hV, hV2, inR_trans hV3 hU3⟩
      · rintro ⟨U, hU, hU2, hU3⟩
        exact ⟨U, by omega, hU2, hU3⟩
    rw [hiff]; exact hm T hT
  refine hM A R1 (by omega) (fun Hs => z1 ⟨vp_in_nI (by omega) (by decide), ?_⟩) (fun Hs => z0 (hskip (mnb_f.mpr (fun r => Hs r.1))))
  rw [nI_clamp (by omega)]
  refine ⟨fun r => hskip (mnb_f.mpr (fun ⟨_, hno⟩ => r ((hm s (by omega)).2 (fun ⟨U, hU, hU2, hU3⟩ => hno U hU hU2 hU3)))), fun r => ?_⟩
  have hno : ¬ ∃ U, U < s ∧ Hp n lt U ∧ inR (tn n k lt c q) U s := fun v => by rw [(hm s (by omega)).1 v] at r; exact absurd r (by decide)
  have hmn : mnb (Hp n lt) (tn n k lt c q) s = true := mnb_t.mpr ⟨Hs, fun U hU hU2 hU3 => hno ⟨U, hU, hU2, hU3⟩⟩
  obtain ⟨p1, p2, p3, p4⟩ := per_spec hMp Hs
  have hh := itf_p hMp Hs
  refine Lp3_up (fun t x8 x9 g2 => x8 = nI t ∧ x9 = nI (itf (tn n k lt c q) t s) ∧ (∀ a, a < 4 → g2 a = g a) ∧ ∀ T, T < 256 → (((∃ U, U < s ∧ Hp n lt U ∧ inR (tn n k lt c q) U T) ∨ inO (tn n k lt c q) s t T) → g2 6 T = 1) ∧ (¬ ((∃ U, U < s ∧ Hp n lt U ∧ inR (tn n k lt c q) U T) ∨ inO (tn n k lt c q) s t T) → g2 6 T = 0)) (per (tn n k lt c q) s) ?_ 0 0 (nI s) g1 (Nat.zero_le _) ⟨rfl, rfl, hg1, fun T hT => ⟨fun v => v.elim (hm T hT).1 (fun ⟨a, ha, _⟩ => absurd ha (Nat.not_lt_zero a)), fun v => (hm T hT).2 (fun w => v (Or.inl w))⟩⟩
  rintro t x8 x9 g2 ht ⟨rfl, rfl, hg2, hm2⟩ B2 hB2
  unfold wM_orbits_b88
  have hit := (hh t).1
  refine ⟨vp_in_nI (by omega) (by decide), ?_⟩
  rw [nI_clamp (by omega)]
  refine ⟨fun v => ?_, fun v => ⟨vp_in_nI (by omega) (by decide), fun g3 e3 => ?_⟩⟩
  · -- the round is through
    have et : t = per (tn n k lt c q) s := by
      rcases Nat.lt_or_ge t (per (tn n k lt c q) s) with w | w
      · refine absurd ((hm2 _ (by omega)).2 ?_) v
        rintro (⟨U, hU, hU2, hU3⟩ | ⟨a, ha, ea⟩)
        · exact hno ⟨U, hU, hU2, inR_trans hU3 (inR_sym hMp Hs ⟨t, rfl⟩)⟩
        · exact p4 (t - a) (by omega) (by omega) (itf_back hMp Hs (by omega) ea)
      · omega
    subst et
    have hlast : ∀ y : Int32, y = nI (max (FS (mnb (Hp n lt) (tn n k lt c q)) (fun a U => max a (per (tn n k lt c q) U)) 0 s) (per (tn n k lt c q) s)) → wM_orbits_j138 P (nI n) cl tr B K (nI q) x2 (nI (ctn (mnb (Hp n lt) (tn n k lt c q)) s) + 1) (lN (FS (mnb (Hp n lt) (tn n k lt c q)) (ost (tn n k lt c q)) 1 s)) (nI s) (nI (per (tn n k lt c q) s)) y g2 := by
      intro y ey
      unfold wM_orbits_j138 wM_orbits_j169
      have hfin : ∀ o2 : Nat, o2 = ost (tn n k lt c q) (FS (mnb (Hp n lt) (tn n k lt c q)) (ost (tn n k lt c q)) 1 s) s → o2 ≤ 256000000000 → B (nI (ctn (mnb (Hp n lt) (tn n k lt c q)) s) + 1) y (lN o2) (nI s + 1) g2 := by
        intro o2 eo ho2
        refine hB _ _ _ _ _ hlt ⟨nI_1 s, by rw [nI_1, ctn, hmn]; rfl, by rw [ey, FS, hmn]; rfl, by rw [eo, FS, hmn]; rfl, by rw [FS, hmn]; simp only [↓reduceIte]; omega, by rw [FS, hmn]; simp only [↓reduceIte]; rw [← eo]; exact ho2, hg2, fun T hT => ?_⟩
        have hm3 := hm2 T hT
        rw [inO_iff hMp Hs] at hm3
        have hiff : (∃ U, U < s + 1 ∧ Hp n lt U ∧ inR (tn n k lt c q) U T) ↔ ((∃ U, U < s ∧ Hp n lt U ∧ inR (tn n k lt c q) U T) ∨ inR (tn n k lt c q) s T) := by
          constructor
          · rintro ⟨U, hU, hU2, hU3⟩
            rcases Nat.lt_succ_iff_lt_or_eq.mp hU with w | w
            · exact Or.inl ⟨U, w, hU2, hU3⟩
            · subst w; exact Or.inr hU3
          · rintro (⟨U, hU, hU2, hU3⟩ | w)
            · exact ⟨U, by omega, hU2, hU3⟩
            · exact ⟨s, by omega, Hs, w⟩
        rw [hiff]; exact hm3
      have hcmp : lg_cmp (lN (FS (mnb (Hp n lt) (tn n k lt c q)) (ost (tn n k lt c q)) 1 s)) 1000000000 ≤ 0 ↔ FS (mnb (Hp n lt) (tn n k lt c q)) (ost (tn n k lt c q)) 1 s ≤ 1000000000 := by
        rw [lgc_le, show (1000000000 : Int64) = lN 1000000000 from rfl]
        exact pk_lLE (by omega) (by decide)
      refine ⟨fun w => ?_, fun w => ?_⟩
      · rw [hcmp] at w
        have hg1' : 1 ≤ Nat.gcd (FS (mnb (Hp n lt) (tn n k lt c q)) (ost (tn n k lt c q)) 1 s) (per (tn n k lt c q) s) := Nat.gcd_pos_of_pos_right _ (by omega)
        have hg2' : Nat.gcd (FS (mnb (Hp n lt) (tn n k lt c q)) (ost (tn n k lt c q)) 1 s) (per (tn n k lt c q) s) ≤ per (tn n k lt c q) s := Nat.gcd_le_right _ (by omega)
        refine cdML (by omega) (by omega) ⟨fun z => ?_, ?_⟩
        · rw [show (0 : Int64) = lN 0 from rfl, pk_lEQ (by omega) (by decide)] at z; omega
        · rw [pk_lDiv (by omega) (by omega) (by omega), nI_l (by omega), lN_mul]
          refine hfin _ (ost_small w).symm ?_
          have h1 : FS (mnb (Hp n lt) (tn n k lt c q)) (ost (tn n k lt c q)) 1 s / Nat.gcd (FS (mnb (Hp n lt) (tn n k lt c q)) (ost (tn n k lt c q)) 1 s) (per (tn n k lt c q) s) ≤ 1000000000 := Nat.le_trans (Nat.div_le_self _ _) w
          exact Nat.le_trans (Nat.mul_le_mul h1 (show per (tn n k lt c q) s ≤ 256 by omega)) (by decide)
      · rw [hcmp] at w
        exact hfin _ (by rw [ost_big (by omega)]) hb2
    refine br_le (by omega) (by omega) (fun w => hlast _ ?_) (fun w => hlast _ ?_)
    · rw [Nat.max_eq_left w]
    · rw [Nat.max_eq_right (by omega)]
  · -- one heap further
    have hlt2 : t < per (tn n k lt c q) s := by
      rcases Nat.lt_or_ge t (per (tn n k lt c q) s) with w | w
      · exact w
      · have et : t = per (tn n k lt c q) s := by omega
        subst et
        rw [p3] at v
        rw [(hm2 s (by omega)).1 (Or.inr ⟨0, by omega, rfl⟩)] at v
        exact absurd v (by decide)
    rw [nar1] at e3
    have hg3 : ∀ a, a < 4 → g3 a = g a := fun a ha => by rw [e3, up2_ne _ _ _ (by omega)]; exact hg2 a ha
    refine tnM A (R.keep hg3) (hh t) hq (hB2 _ _ _ hlt2 ⟨nI_1 t, rfl, hg3, fun T hT => ?_⟩)
    rw [e3, up2_same]
    by_cases hTi : T = itf (tn n k lt c q) t s
    · subst hTi
      rw [upd_eq]
      exact ⟨fun _ => rfl, fun w => absurd (Or.inr ⟨t, by omega, rfl⟩) w⟩
    · rw [upd_ne _ _ hTi]
      refine ⟨fun w => (hm2 T hT).1 (w.imp id (fun ⟨a, ha, ea⟩ => ⟨a, ?_, ea⟩)), fun w => (hm2 T hT).2 (fun w2 => w (w2.imp id (fun ⟨a, ha, ea⟩ => ⟨a, by omega, ea⟩)))⟩
      rcases Nat.lt_succ_iff_lt_or_eq.mp ha with z | z
      · exact z
      · subst z; exact absurd ea.symm hTi
theorem st_orbits : Step_orbits Rel := by
  intro tc cl tr g tc' cl' tr' g' a1 a2 hR
  obtain ⟨n, k, lt, c, wt, A, X, M, e⟩ := id hR
  unfold wX_orbits
  by_cases h1 : ∃ j, j < 2 ∧ a1 = nI j
  · obtain ⟨q, hq, rfl⟩ := h1
    refine kX_y hq (z1 ?_)
    by_cases h2 : ∃ j, j < 3 ∧ a2 = nI j
    · obtain ⟨w, hw, rfl⟩ := h2
      refine ⟨fun u => absurd u (nI_pos (by omega)), fun _ => br_le (a := w) (b := 2) (by omega) (by decide) (fun _ => ?_) (fun u => absurd u (by omega))⟩
      refine foX A X hq (fun g3 hg3 hL => ?_)
      have mm : ∀ r : Int32, r = (if w = 0 then nI (ctn (mnb (Hp n lt) (tn n k lt c q)) (2 ^ n)) else if w = 2 then nI (FS (mnb (Hp n lt) (tn n k lt c q)) (fun a U => max a (per (tn n k lt c q) U)) 0 (2 ^ n)) else (if 1000000000 < FS (mnb (Hp n lt) (tn n k lt c q)) (ost (tn n k lt c q)) 1 (2 ^ n) then -9 else nI (FS (mnb (Hp n lt) (tn n k lt c q)) (ost (tn n k lt c q)) 1 (2 ^ n)))) → wM_orbits (fun r' g2' => r = r' ∧ Rel tc cl tr g3 tc' cl' tr' g2') tc' cl' tr' g' (nI q) (nI w) := by
        intro r er
        refine kM_y hq (z1 ?_)
        refine inY (a := 0) (b := 2) (by omega) (by omega) (by decide) (y1 ?_)
        refine Lp2_up (fun i x3 g1 => x3 = nI i ∧ (∀ a, a < 4 → g1 a = g' a) ∧ ∀ T, T < i → g1 6 T = 0) 256 ?_ 0 0 g' (Nat.zero_le _) ⟨rfl, fun _ _ => rfl, fun T hT => absurd hT (Nat.not_lt_zero T)⟩
        rintro i x3 g1 hi ⟨rfl, hg1, h6⟩ B hB
        unfold wM_orbits_b20
        refine br_le (a := 256) (b := i) (by decide) (by omega) (fun u => ?_) (fun hlt => ⟨vp_in_nI hlt (by decide), fun g2 e2 => hB _ _ hlt ⟨nI_1 i, fun a ha => ?_, fun T hT => ?_⟩⟩)
        · refine obsM A (M.keep hg1) hq (fun T hT => h6 T (by omega)) (fun g2 hg2 hb => ?_)
          have rel : Rel tc cl tr g3 tc' cl' tr' g2 := Rel.scrX A X M e hg3 (fun a ha => by rw [hg2 a ha, hg1 a ha])
          refine br_ne (a := w) (b := 0) (by omega) (by decide) (fun v => br_ne (a := w) (b := 2) (by omega) (by decide) (fun v2 => ?_) (fun v2 => ?_)) (fun v => ?_)
          · have hcmp : lg_cmp (lN (FS (mnb (Hp n lt) (tn n k lt c q)) (ost (tn n k lt c q)) 1 (2 ^ n))) 1000000000 ≤ 0 ↔ FS (mnb (Hp n lt) (tn n k lt c q)) (ost (tn n k lt c q)) 1 (2 ^ n) ≤ 1000000000 := by
              rw [lgc_le, show (1000000000 : Int64) = lN 1000000000 from rfl]
              exact pk_lLE (by omega) (by decide)
            rw [if_neg v, if_neg v2] at er
            refine ⟨fun z => ⟨?_, rel⟩, fun z => ⟨?_, rel⟩⟩
            · rw [hcmp] at z; rw [er, if_neg (by omega), lN_i]
            · rw [hcmp] at z; rw [er, if_pos (by omega)]
          · rw [if_neg v, if_pos v2] at er; exact ⟨er, rel⟩
          · rw [if_pos v] at er; exact ⟨er, rel⟩
        · rw [e2, up2_ne _ _ _ (by omega)]; exact hg1 a ha
        · rw [nI_clamp (by omega), nar0] at e2
          rw [e2, up2_same]
          rcases Nat.lt_succ_iff_lt_or_eq.mp hT with z | z
          · rw [upd_ne _ _ (by omega)]; exact h6 T z
          · subst z; rw [upd_eq]
      refine br_ne (a := w) (b := 0) (by omega) (by decide) (fun v => br_ne (a := w) (b := 1) (by omega) (by decide) (fun v2 => ?_) (fun v2 => ?_)) (fun v => ?_)
      · exact loX A hL (mm _ (by rw [if_neg v, if_pos (show w = 2 by omega)]))
      · exact orX A hL (mm _ (by rw [if_neg v, if_neg (show ¬ w = 2 by omega)]))
      · exact mm _ (by rw [if_pos v])
    · have hx : ∀ j, j < 3 → a2 ≠ nI j := fun j hj q => h2 ⟨j, hj, q⟩
      have hm : wM_orbits (fun r' g2' => -1 = r' ∧ Rel tc cl tr g tc' cl' tr' g2') tc' cl' tr' g' (nI q) a2 := kM_y hq (z1 (inN (a := 0) (b := 2) (by decide) (by decide) (fun i _ u => hx i (by omega)) (y0 ⟨rfl, hR⟩)))
      refine ⟨fun _ => hm, fun u => ⟨fun v => ?_, fun _ => hm⟩⟩
      rcases int_out (a := 0) (b := 2) (by decide) (by decide) (fun i _ h2 => hx i (by omega)) with w | w
      · exact absurd w u
      · exact absurd v (Int32.not_le.mpr w)
  · have hx : ∀ j, j < 2 → a1 ≠ nI j := fun j hj q => h1 ⟨j, hj, q⟩
    exact kX_n hx (z0 (kM_n hx (z0 ⟨rfl, hR⟩)))
