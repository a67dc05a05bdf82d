/-! TURNS. -/
def Lst (lt : Nat → Nat → Bool) (S i : Nat) : Prop := S.testBit i = false ∧ ∀ j, lt j i = true → S.testBit j = true
noncomputable def rdp (lt : Nat → Nat → Bool) (S t j : Nat) : Bool := @decide (∃ i, i < t ∧ Lst lt S i ∧ (j = i ∨ lt j i = true)) (Classical.propDecidable _)
theorem rdp_t {lt : Nat → Nat → Bool} {S t j : Nat} : rdp lt S t j = true ↔ ∃ i, i < t ∧ Lst lt S i ∧ (j = i ∨ lt j i = true) := by unfold rdp; exact @decide_eq_true_iff _ (Classical.propDecidable _)
noncomputable def rdS (lt : Nat → Nat → Bool) (S t : Nat) : Nat := mkS (rdp lt S t) 8
theorem rdS_bit {lt : Nat → Nat → Bool} {S t j : Nat} : (rdS lt S t).testBit j = true ↔ j < 8 ∧ ∃ i, i < t ∧ Lst lt S i ∧ (j = i ∨ lt j i = true) := by
  unfold rdS
  rw [mkS_bit, Bool.and_eq_true, decide_eq_true_iff, rdp_t]
theorem bool_ext {a b : Bool} (h : a = true ↔ b = true) : a = b := by cases a <;> cases b <;> simp_all
theorem bits_ext {a b : Nat} (h : ∀ j, a.testBit j = true ↔ b.testBit j = true) : a = b := Nat.eq_of_testBit_eq (fun j => bool_ext (h j))
theorem rdS_no {lt : Nat → Nat → Bool} {S t : Nat} (h : ¬ Lst lt S t) : rdS lt S (t + 1) = rdS lt S t := by
  apply bits_ext
  intro j
  rw [rdS_bit, rdS_bit]
  constructor
  · rintro ⟨h1, i, hi, hl, hj⟩
    rcases Nat.lt_succ_iff_lt_or_eq.mp hi with q | q
    · exact ⟨h1, i, q, hl, hj⟩
    · subst q; exact absurd hl h
  · rintro ⟨h1, i, hi, hl, hj⟩
    exact ⟨h1, i, by omega, hl, hj⟩
theorem rdS_yes {lt : Nat → Nat → Bool} {S t : Nat} (ht : t < 8) (h : Lst lt S t) : rdS lt S (t + 1) = rdS lt S t ||| (mkS (fun j => lt j t) 8 ||| 2 ^ t) := by
  apply bits_ext
  intro j
  rw [Nat.testBit_or, Nat.testBit_or, Nat.testBit_two_pow, mkS_bit, Bool.or_eq_true, Bool.or_eq_true, rdS_bit, rdS_bit, Bool.and_eq_true, decide_eq_true_iff, decide_eq_true_iff]
  constructor
  · rintro ⟨h1, i, hi, hl, hj⟩
    rcases Nat.lt_succ_iff_lt_or_eq.mp hi with q | q
    · exact Or.inl ⟨h1, i, q, hl, hj⟩
    · subst q
      rcases hj with hj | hj
      · exact Or.inr (Or.inr hj.symm)
      · exact Or.inr (Or.inl ⟨h1, hj⟩)
  · rintro (⟨h1, i, hi, hl, hj⟩ | ⟨h1, h2⟩ | h1)
    · exact ⟨h1, i, by omega, hl, hj⟩
    · exact ⟨h1, t, by omega, h, Or.inr h2⟩
    · subst h1; exact ⟨ht, t, by omega, h, Or.inl rfl⟩
theorem rdX {P : Int32 → Prop} {n k : Nat} {lt : Nat → Nat → Bool} {c : Nat → Nat} {wt : Nat → Int32} {tc cl : Int32} {tr : Int64} {g : Sg} (A : AS n k lt c wt) (R : RX n k lt c wt tc cl g) {S : Nat} (H : S < 2 ^ n) (h : P (nI (rdS lt S n))) : wX_turnedRound P tc cl tr g (nI S) := by
  obtain ⟨b1, b2, -, hO, -, -⟩ := id A
  have hp := pw8 b2
  refine Lp2_up (fun i x2 x3 => x3 = nI i ∧ x2 = nI (rdS lt S i)) n ?_ 0 0 0 (Nat.zero_le _) ⟨rfl, ?_⟩
  · rintro i x2 x3 hi ⟨rfl, rfl⟩ B hB
    unfold wX_turnedRound_b4
    rw [R.1]
    refine br_le (by omega) (by omega) (fun q => ?_) (fun hlt => ?_)
    · rw [show n = i by omega] at h; exact h
    · have hno : ¬ Lst lt S i → B (nI (rdS lt S i)) (nI i + 1) := fun q => hB _ _ hlt ⟨nI_1 i, by rw [rdS_no q]⟩
      refine hasX (by omega) (by omega) ?_
      rw [nI_clamp (by omega), sh1 i (by omega)]
      cases hb : S.testBit i with
      | true => exact y1 (hno (fun q => by rw [q.1] at hb; cases hb))
      | false =>
        refine y0 ⟨vp_in_nI (by omega) (by decide), fun q => ?_, fun q => ⟨vp_in_nI (by omega) (by decide), fun x e => ?_⟩⟩
        · rw [unX R (by omega) hO b2] at q
          exact hno (fun r => q r.2)
        · rw [unX R (by omega) hO b2] at q
          refine hB _ _ hlt ⟨nI_1 i, ?_⟩
          rw [e, R.2.2.1 i (by omega), fa_or, fa_or, rdS_yes (by omega) ⟨hb, q⟩]
  · rw [show rdS lt S 0 = 0 from bits_ext (fun j => by rw [rdS_bit]; simp)]; rfl
theorem mkS_up {p : Nat → Bool} {m : Nat} (hm : m ≤ 8) (hp : ∀ j, p j = true → j < m) : mkS p m = mkS p 8 := by
  apply bits_ext
  intro j
  rw [mkS_bit, mkS_bit, Bool.and_eq_true, Bool.and_eq_true, decide_eq_true_iff, decide_eq_true_iff]
  constructor
  · rintro ⟨h1, h2⟩; exact ⟨by omega, h2⟩
  · rintro ⟨h1, h2⟩; exact ⟨hp j h2, h2⟩
theorem rdM {P : Int32 → Prop} {n k : Nat} {lt : Nat → Nat → Bool} {c : Nat → Nat} {wt : Nat → Int32} {tc cl : Int32} {tr : Int64} {g : Sg} (A : AS n k lt c wt) (R : RM n k lt c wt tc cl g) {S : Nat} (H : S < 2 ^ n) (h : P (nI (rdS lt S n))) : ∃ m, Lp2 (wM_turned_b46 P tc cl tr g (nI S)) m (0 : Int32) (0 : Int32) := by
  obtain ⟨b1, b2, -, hO, -, -⟩ := id A
  have hp := pw8 b2
  refine Lp2_up (fun i x4 x5 => x5 = nI i ∧ x4 = nI (rdS lt S i)) n ?_ 0 0 0 (Nat.zero_le _) ⟨rfl, by rw [show rdS lt S 0 = 0 from bits_ext (fun j => by rw [rdS_bit]; simp)]; rfl⟩
  rintro i x4 x5 hi ⟨rfl, rfl⟩ B hB
  unfold wM_turned_b46
  rw [R.1]
  refine br_le (by omega) (by omega) (fun q => ?_) (fun hlt => ?_)
  · rw [show n = i by omega] at h; exact h
  have key : ∀ y0 : Int32, (y0 = 0 ∧ S.testBit i = true ∨ y0 = 1 ∧ S.testBit i = false) → wM_turned_j69 P (nI n) cl tr g B (nI S) (nI (rdS lt S i)) (nI i) y0 := by
    intro y0 hy
    unfold wM_turned_j69 wM_turned_j174
    intro x7 e7
    rw [sh1 i (by omega)] at e7
    refine Lp3_up (fun j x6 x7 x8 => x8 = nI j ∧ x7 = nI (2 ^ i ||| mkS (fun a => lt a i) j) ∧ (x6 = 0 ∧ ¬ Lst lt S i ∨ x6 = 1 ∧ S.testBit i = false ∧ ∀ a, a < j → lt a i = true → S.testBit a = true)) n ?_ 0 y0 x7 0 (Nat.zero_le _) ⟨rfl, by rw [e7]; simp [mkS], ?_⟩
    · rintro j x6 x7 x8 hj ⟨rfl, rfl, hI⟩ B2 hB2
      unfold wM_turned_b80
      refine br_le (by omega) (by omega) (fun q => ?_) (fun hlt2 => ?_)
      · rcases hI with ⟨rfl, hI⟩ | ⟨rfl, hI1, hI2⟩
        · refine z0 (fun x e => hB _ _ hlt ⟨nI_1 i, ?_⟩)
          rw [e, show (0 : Int32) = nI 0 from rfl, fa_or, Nat.or_zero, rdS_no hI]
        · have hL : Lst lt S i := ⟨hI1, fun a ha => hI2 a (by have := hO.1 a i ha; omega) ha⟩
          refine z1 (fun x e => hB _ _ hlt ⟨nI_1 i, ?_⟩)
          rw [e, fa_or, rdS_yes (by omega) hL, mkS_up (by omega) (fun a ha => by have := hO.1 a i ha; omega), Nat.or_comm (2 ^ i)]
      · have hnx : ∀ y : Int32, (y = 0 ∧ ¬ Lst lt S i ∨ y = 1 ∧ S.testBit i = false ∧ ∀ a, a < j + 1 → lt a i = true → S.testBit a = true) → wM_turned_j124 P (nI n) cl tr g B2 (fun x6 x7 => (x6 = 0 → ∀ x4_4 : Int32, x4_4 = nI (rdS lt S i) ||| 0 → B x4_4 (nI i + 1)) ∧ (¬ x6 = 0 → ∀ x4_4 : Int32, x4_4 = nI (rdS lt S i) ||| x7 → B x4_4 (nI i + 1))) (nI S) (nI (rdS lt S i)) (nI i) (nI (2 ^ i ||| mkS (fun a => lt a i) j)) (nI j) y := by
          intro y hy2
          unfold wM_turned_j124 wM_turned_j152
          rw [sh1 j (by omega)]
          refine ⟨inM (by omega) (by omega), brM R (by omega) (by omega) (fun hl x e => ?_) (fun hl x e => ?_)⟩
          · refine hB2 _ _ _ hlt2 ⟨nI_1 j, ?_, hy2⟩
            rw [e, mkS, hl, show (0 : Int32) = nI 0 from rfl, fa_or]; simp
          · refine hB2 _ _ _ hlt2 ⟨nI_1 j, ?_, hy2⟩
            rw [e, mkS, hl, fa_or]; simp [Nat.or_assoc]
        unfold wM_turned_j123 wM_turned_j119
        rcases hI with ⟨rfl, hI⟩ | ⟨rfl, hI1, hI2⟩
        · exact z0 (hnx 0 (Or.inl ⟨rfl, hI⟩))
        · refine z1 ⟨inM (by omega) (by omega), brM R (by omega) (by omega) (fun hl => ?_) (fun hl => ?_)⟩
          · refine hnx 1 (Or.inr ⟨rfl, hI1, fun a ha hla => ?_⟩)
            rcases Nat.lt_succ_iff_lt_or_eq.mp ha with r | r
            · exact hI2 a r hla
            · subst r; rw [hl] at hla; cases hla
          · refine hasM (by omega) (by omega) ?_
            cases hb : S.testBit j with
            | false => exact z0 (hnx 0 (Or.inl ⟨rfl, fun q => by rw [q.2 j hl] at hb; cases hb⟩))
            | true =>
              refine z1 (hnx 1 (Or.inr ⟨rfl, hI1, fun a ha hla => ?_⟩))
              rcases Nat.lt_succ_iff_lt_or_eq.mp ha with r | r
              · exact hI2 a r hla
              · subst r; exact hb
    · rcases hy with ⟨rfl, hy⟩ | ⟨rfl, hy⟩
      · exact Or.inl ⟨rfl, fun q => by rw [q.1] at hy; cases hy⟩
      · exact Or.inr ⟨rfl, hy, fun a ha => absurd ha (Nat.not_lt_zero a)⟩
  refine hasM (by omega) (by omega) ?_
  cases hb : S.testBit i with
  | false => exact y0 (key 1 (Or.inr ⟨rfl, hb⟩))
  | true => exact y1 (key 0 (Or.inl ⟨rfl, hb⟩))
/-- the chain's flips, one after the other -/
noncomputable def chf (n : Nat) (lt : Nat → Nat → Bool) (c : Nat → Nat) (S : Nat) : Nat → Nat
  | 0 => S
  | j + 1 => fl n lt (chf n lt c S j) (c j)
theorem chf_hp {n : Nat} {lt : Nat → Nat → Bool} {c : Nat → Nat} {S : Nat} (H : Hp n lt S) : ∀ j, Hp n lt (chf n lt c S j)
  | 0 => H
  | j + 1 => fl_hp (chf_hp H j)
theorem chX {P : Int32 → Prop} {n k : Nat} {lt : Nat → Nat → Bool} {c : Nat → Nat} {wt : Nat → Int32} {tc cl : Int32} {tr : Int64} {g : Sg} (A : AS n k lt c wt) (R : RX n k lt c wt tc cl g) {S : Nat} (H : Hp n lt S) (h : P (nI (chf n lt c S k))) : wX_turnedByChain P tc cl tr g (nI S) := by
  obtain ⟨b1, b2, b3, hO, b5, -⟩ := id A
  refine Lp2_up (fun i x2 x3 => x3 = nI i ∧ x2 = nI (chf n lt c S i)) k ?_ 0 (nI S) 0 (Nat.zero_le _) ⟨rfl, rfl⟩
  rintro i x2 x3 hi ⟨rfl, rfl⟩ B hB
  unfold wX_turnedByChain_b4
  have ec := R.2.1
  subst ec
  refine br_le (by omega) (by omega) (fun q => ?_) (fun hlt => ⟨vp_in_nI (by omega) (by decide), ?_⟩)
  · rw [show k = i by omega] at h; exact h
  · rw [nI_clamp (by omega), R.2.2.2.2.2 i hlt]
    exact flX A R (chf_hp H i) (b5 i hlt) (hB _ _ hlt ⟨nI_1 i, rfl⟩)
theorem chM {P : Int32 → Prop} {n k : Nat} {lt : Nat → Nat → Bool} {c : Nat → Nat} {wt : Nat → Int32} {tc cl : Int32} {tr : Int64} {g : Sg} (A : AS n k lt c wt) (R : RM n k lt c wt tc cl g) {S : Nat} (H : Hp n lt S) (h : P (nI (chf n lt c S k))) : ∃ m, Lp2 (wM_turned_b10 P tc cl tr g) m (nI S) (0 : Int32) := by
  obtain ⟨b1, b2, b3, hO, b5, -⟩ := id A
  refine Lp2_up (fun i x2 x3 => x3 = nI i ∧ x2 = nI (chf n lt c S i)) k ?_ 0 (nI S) 0 (Nat.zero_le _) ⟨rfl, rfl⟩
  rintro i x2 x3 hi ⟨rfl, rfl⟩ B hB
  unfold wM_turned_b10
  have ec := R.2.1
  subst ec
  refine br_le (by omega) (by omega) (fun q => ?_) (fun hlt => ⟨vp_in_nI (by omega) (by decide), ?_⟩)
  · rw [show k = i by omega] at h; exact h
  · rw [nI_clamp (by omega), R.2.2.2.2 i hlt]
    exact flM A R (chf_hp H i) (b5 i hlt) (hB _ _ hlt ⟨nI_1 i, rfl⟩)
/-- a turn of kind q (0 or 1) -/
noncomputable def tn (n k : Nat) (lt : Nat → Nat → Bool) (c : Nat → Nat) (q S : Nat) : Nat := if q = 0 then rdS lt S n else chf n lt c S k
theorem tnX {P : Int32 → Prop} {n k : Nat} {lt : Nat → Nat → Bool} {c : Nat → Nat} {wt : Nat → Int32} {tc cl : Int32} {tr : Int64} {g : Sg} (A : AS n k lt c wt) (R : RX n k lt c wt tc cl g) {S q : Nat} (H : Hp n lt S) (hq : q < 2) (h : P (nI (tn n k lt c q S))) : wX_turned P tc cl tr g (nI S) (nI q) := by
  unfold wX_turned
  refine br_ne (a := q) (b := 0) (by omega) (by decide) (fun r => ?_) (fun r => ?_)
  · refine chX A R H ?_
    simpa [tn, r] using h
  · refine rdX A R H.1 ?_
    simpa [tn, r] using h
theorem tnM {P : Int32 → Prop} {n k : Nat} {lt : Nat → Nat → Bool} {c : Nat → Nat} {wt : Nat → Int32} {tc cl : Int32} {tr : Int64} {g : Sg} (A : AS n k lt c wt) (R : RM n k lt c wt tc cl g) {S q : Nat} (H : Hp n lt S) (hq : q < 2) (h : P (nI (tn n k lt c q S))) : wM_turned P tc cl tr g (nI S) (nI q) := by
  unfold wM_turned
  refine br_ne (a := q) (b := 1) (by omega) (by decide) (fun r => ?_) (fun r => ?_)
  · refine rdM A R H.1 ?_
    simpa [tn, show q = 0 by omega] using h
  · refine chM A R H ?_
    simpa [tn, r] using h
theorem rd_hp {n : Nat} {lt : Nat → Nat → Bool} {S : Nat} (hO : Or8 n lt) (hn : n ≤ 8) : Hp n lt (rdS lt S n) := by
  refine ⟨?_, fun a b hab hb => ?_⟩
  · apply Nat.lt_pow_two_of_testBit
    intro j hj
    cases hb : (rdS lt S n).testBit j with
    | false => rfl
    | true =>
      rw [rdS_bit] at hb
      obtain ⟨-, i, hi, -, r | r⟩ := hb
      · omega
      · have := hO.1 j i r; omega
  · rw [rdS_bit] at hb ⊢
    obtain ⟨h1, i, hi, hl, r⟩ := hb
    have := hO.1 a b hab
    refine ⟨by omega, i, hi, hl, Or.inr ?_⟩
    rcases r with r | r
    · subst r; exact hab
    · exact hO.2 a b i hab r
theorem tn_hp {n k : Nat} {lt : Nat → Nat → Bool} {c : Nat → Nat} {wt : Nat → Int32} (A : AS n k lt c wt) {S q : Nat} (H : Hp n lt S) : Hp n lt (tn n k lt c q S) := by
  unfold tn
  split
  · exact rd_hp A.2.2.2.1 A.2.1
  · exact chf_hp H k
theorem fl_fl {n : Nat} {lt : Nat → Nat → Bool} {S i : Nat} (H : Hp n lt S) : fl n lt (fl n lt S i) i = S := by
  by_cases h : hpb n lt (S ^^^ 2 ^ i) = true
  · have e : fl n lt S i = S ^^^ 2 ^ i := by simp [fl, h]
    have e2 : S ^^^ 2 ^ i ^^^ 2 ^ i = S := by rw [Nat.xor_assoc, Nat.xor_self, Nat.xor_zero]
    rw [e]
    unfold fl
    rw [e2, hpb_t.mpr H]
    rfl
  · have e : fl n lt S i = S := by simp [fl, h]
    rw [e, e]
theorem fl_inj {n : Nat} {lt : Nat → Nat → Bool} {S T i : Nat} (H : Hp n lt S) (H2 : Hp n lt T) (e : fl n lt S i = fl n lt T i) : S = T := by
  rw [← fl_fl (i := i) H, ← fl_fl (i := i) H2, e]
theorem ch_inj {n : Nat} {lt : Nat → Nat → Bool} {c : Nat → Nat} {S T : Nat} (H : Hp n lt S) (H2 : Hp n lt T) : ∀ j, chf n lt c S j = chf n lt c T j → S = T
  | 0, e => e
  | j + 1, e => ch_inj H H2 j (fl_inj (chf_hp H j) (chf_hp H2 j) e)
theorem lst_ex {n : Nat} {lt : Nat → Nat → Bool} {S : Nat} (hO : Or8 n lt) : ∀ x, S.testBit x = false → ∃ i, Lst lt S i ∧ (i = x ∨ lt i x = true) := by
  intro x
  induction x using Nat.strongRecOn with
  | _ x ih =>
    intro hx
    by_cases h : Lst lt S x
    · exact ⟨x, h, Or.inl rfl⟩
    · have : ∃ j, lt j x = true ∧ S.testBit j = false := by
        apply Classical.byContradiction
        intro hn
        refine h ⟨hx, fun j hj => ?_⟩
        cases hb : S.testBit j with
        | true => rfl
        | false => exact absurd ⟨j, hj, hb⟩ hn
      obtain ⟨j, hj, hb⟩ := this
      obtain ⟨i, hi, r⟩ := ih j (hO.1 j x hj).1 hb
      refine ⟨i, hi, Or.inr ?_⟩
      rcases r with r | r
      · subst r; exact hj
      · exact hO.2 i j x r hj
theorem lst_max {n : Nat} {lt : Nat → Nat → Bool} {S i : Nat} (hO : Or8 n lt) (hn : n ≤ 8) (hi : i < n) : Lst lt S i ↔ (rdS lt S n).testBit i = true ∧ ∀ j, lt i j = true → (rdS lt S n).testBit j = false := by
  constructor
  · intro h
    refine ⟨rdS_bit.mpr ⟨by omega, i, hi, h, Or.inl rfl⟩, fun j hj => ?_⟩
    cases hb : (rdS lt S n).testBit j with
    | false => rfl
    | true =>
      obtain ⟨-, a, ha, hl, r⟩ := rdS_bit.mp hb
      have hia : lt i a = true := by
        rcases r with r | r
        · subst r; exact hj
        · exact hO.2 i j a hj r
      have := hl.2 i hia
      rw [h.1] at this; cases this
  · rintro ⟨h1, h2⟩
    obtain ⟨-, a, ha, hl, r⟩ := rdS_bit.mp h1
    rcases r with r | r
    · subst r; exact hl
    · have := h2 a r
      rw [rdS_bit.mpr ⟨by omega, a, ha, hl, Or.inl rfl⟩] at this; cases this
theorem rd_sub {n : Nat} {lt : Nat → Nat → Bool} {S T : Nat} (hO : Or8 n lt) (hn : n ≤ 8) (H : Hp n lt S) (H2 : Hp n lt T) (e : rdS lt S n = rdS lt T n) (x : Nat) (hx : S.testBit x = true) : T.testBit x = true := by
  have hxn := bit_lt H.1 hx
  cases hb : T.testBit x with
  | true => rfl
  | false =>
    obtain ⟨i, hi, r⟩ := lst_ex hO x hb
    have hin : i < n := by
      rcases r with r | r
      · omega
      · have := hO.1 i x r; omega
    have hS : Lst lt S i := by
      rw [lst_max hO hn hin, e, ← lst_max hO hn hin]; exact hi
    have : S.testBit i = true := by
      rcases r with r | r
      · subst r; exact hx
      · exact H.2 i x r hx
    rw [hS.1] at this; cases this
theorem tn_inj {n k : Nat} {lt : Nat → Nat → Bool} {c : Nat → Nat} {wt : Nat → Int32} (A : AS n k lt c wt) {S T q : Nat} (H : Hp n lt S) (H2 : Hp n lt T) (e : tn n k lt c q S = tn n k lt c q T) : S = T := by
  unfold tn at e
  by_cases hq : q = 0
  · simp only [hq, ↓reduceIte] at e
    exact bits_ext (fun j => ⟨rd_sub A.2.2.2.1 A.2.1 H H2 e j, rd_sub A.2.2.2.1 A.2.1 H2 H e.symm j⟩)
  · simp only [hq, ↓reduceIte] at e
    exact ch_inj H H2 k e
