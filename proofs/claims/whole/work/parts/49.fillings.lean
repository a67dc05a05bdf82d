/-! FILLINGS: both classes count the same. -/
/-- sums over subsets, a thing at a time -/
def zet (w : Nat → Nat) : Nat → Nat → Nat
  | 0, S => w S
  | t + 1, S => if S.testBit t then zet w t S + zet w t (S ^^^ 2 ^ t) else zet w t S
def Cz (t S T : Nat) : Prop := ∀ j, (j < t → T.testBit j = true → S.testBit j = true) ∧ (t ≤ j → T.testBit j = S.testBit j)
theorem zet_sm {n : Nat} (w : Nat → Nat) : ∀ t, t ≤ n → ∀ S, S < 2 ^ n → zet w t S = sm (fun T => if pdec (Cz t S T) then w T else 0) (2 ^ n)
  | 0, _, S, hS => by
    have h := sm_one (F := fun T => if pdec (Cz 0 S T) then w T else 0) hS (fun T _ hne => by
      have : ¬ Cz 0 S T := fun q => hne (Nat.eq_of_testBit_eq (fun j => (q j).2 (Nat.zero_le j)))
      rw [pdec_f.mpr this]; rfl)
    have hc : Cz 0 S S := fun j => ⟨fun q => absurd q (Nat.not_lt_zero j), fun _ => rfl⟩
    rw [h, zet, pdec_t.mpr hc]
    rfl
  | t + 1, ht, S, hS => by
    rw [zet]
    cases hb : S.testBit t with
    | false =>
      simp only [Bool.false_eq_true, ↓reduceIte]
      rw [zet_sm w t (by omega) S hS]
      apply sm_cong
      intro T _
      have : pdec (Cz t S T) = pdec (Cz (t + 1) S T) := by
        apply bool_ext
        rw [pdec_t, pdec_t]
        constructor
        · intro q j
          refine ⟨fun hj hT => ?_, fun hj => (q j).2 (by omega)⟩
          rcases Nat.lt_succ_iff_lt_or_eq.mp hj with z | z
          · exact (q j).1 z hT
          · subst z; rw [← (q j).2 (Nat.le_refl j)]; exact hT
        · intro q j
          refine ⟨fun hj hT => (q j).1 (by omega) hT, fun hj => ?_⟩
          rcases Nat.lt_or_ge t j with z | z
          · exact (q j).2 z
          · have : j = t := by omega
            subst this
            cases hT : T.testBit j with
            | false => exact hb.symm
            | true => rw [(q j).1 (by omega) hT] at hb; cases hb
      rw [this]
    | true =>
      simp only [↓reduceIte]
      have hS2 : S ^^^ 2 ^ t < 2 ^ n := xor_lt hS (by omega)
      rw [zet_sm w t (by omega) S hS, zet_sm w t (by omega) _ hS2, ← sm_add]
      apply sm_cong
      intro T _
      have hx : ∀ j, (S ^^^ 2 ^ t).testBit j = (S.testBit j ^^ decide (t = j)) := fun j => xor_bit S t j
      by_cases hT : T.testBit t = true
      · have h2 : pdec (Cz t (S ^^^ 2 ^ t) T) = false := pdec_f.mpr (fun q => by
          have := (q t).2 (Nat.le_refl t)
          rw [hx, hb, hT] at this; simp at this)
        have h1 : pdec (Cz t S T) = pdec (Cz (t + 1) S T) := by
          apply bool_ext
          rw [pdec_t, pdec_t]
          constructor
          · intro q j
            refine ⟨fun hj hTj => ?_, fun hj => (q j).2 (by omega)⟩
            rcases Nat.lt_succ_iff_lt_or_eq.mp hj with z | z
            · exact (q j).1 z hTj
            · subst z; exact hb
          · intro q j
            refine ⟨fun hj hTj => (q j).1 (by omega) hTj, fun hj => ?_⟩
            rcases Nat.lt_or_ge t j with z | z
            · exact (q j).2 z
            · have : j = t := by omega
              subst this; rw [hT, hb]
        rw [h1, h2]; simp
      · have hT' : T.testBit t = false := by simpa using hT
        have h1 : pdec (Cz t S T) = false := pdec_f.mpr (fun q => by
          have := (q t).2 (Nat.le_refl t)
          rw [hb, hT'] at this; cases this)
        have h2 : pdec (Cz t (S ^^^ 2 ^ t) T) = pdec (Cz (t + 1) S T) := by
          apply bool_ext
          rw [pdec_t, pdec_t]
          constructor
          · intro q j
            refine ⟨fun hj hTj => ?_, fun hj => ?_⟩
            · rcases Nat.lt_succ_iff_lt_or_eq.mp hj with z | z
              · have := (q j).1 z hTj
                rw [hx] at this
                simpa [show ¬ t = j by omega] using this
              · subst z; exact hb
            · have := (q j).2 (by omega)
              rw [hx] at this
              simpa [show ¬ t = j by omega] using this
          · intro q j
            refine ⟨fun hj hTj => ?_, fun hj => ?_⟩
            · rw [hx, (q j).1 (by omega) hTj]
              simp [show ¬ t = j by omega]
            · rw [hx]
              rcases Nat.lt_or_ge t j with z | z
              · rw [(q j).2 z]; simp [show ¬ t = j by omega]
              · have : j = t := by omega
                subst this; rw [hT', hb]; simp
        rw [h1, h2]; simp
theorem zet_all {n : Nat} (w : Nat → Nat) {S : Nat} (hS : S < 2 ^ n) : zet w n S = sm (fun T => if pdec (Sub T S) then w T else 0) (2 ^ n) := by
  rw [zet_sm w n (Nat.le_refl n) S hS]
  apply sm_cong
  intro T hT
  have : pdec (Cz n S T) = pdec (Sub T S) := by
    apply bool_ext
    rw [pdec_t, pdec_t]
    constructor
    · intro q j hj
      exact (q j).1 (bit_lt hT hj) hj
    · intro q j
      refine ⟨fun _ hj => q j hj, fun hj => ?_⟩
      have h1 : T.testBit j = false := by
        cases hb : T.testBit j with
        | false => rfl
        | true => have := bit_lt hT hb; omega
      have h2 : S.testBit j = false := by
        cases hb : S.testBit j with
        | false => rfl
        | true => have := bit_lt hS hb; omega
      rw [h1, h2]
  rw [this]
theorem exX {P : Sg → Prop} {n k : Nat} {lt : Nat → Nat → Bool} {c : Nat → Nat} {wt : Nat → Int32} {tc cl : Int32} {tr : Int64} {g : Sg} (A : AS n k lt c wt) (R : RX n k lt c wt tc cl g) {w : Nat → Nat} (hw : ∀ S, S < 2 ^ n → g 9 S = nI (w S))
    (h : ∀ g2 : Sg, (∀ a, a ≠ 9 → g2 a = g a) → (∀ S, S < 2 ^ n → g2 9 S = nI (if hpb n lt S then sm (fun T => if pdec (Sub T S) then w T else 0) (2 ^ n) else 0)) → P g2) : wX_extendRows P tc cl tr g := by
  have hp8 := pw8 A.2.1
  have b2 := A.2.1
  have etc := R.1
  subst etc
  unfold wX_extendRows
  refine Lp2_up (fun t x1 g0 => x1 = nI t ∧ (∀ a, a ≠ 9 → g0 a = g a) ∧ ∀ S, S < 2 ^ n → g0 9 S = nI (zet w t S)) n ?_ 0 0 g (Nat.zero_le _) ⟨rfl, fun _ _ => rfl, hw⟩
  rintro t x1 g0 ht ⟨rfl, hg, hz⟩ B hB
  unfold wX_extendRows_b2
  refine br_le (by omega) (by omega) (fun u => ?_) (fun hlt => ?_)
  · have et : t = n := by omega
    subst et
    refine Lp2_up (fun s x1 g1 => x1 = nI s ∧ (∀ a, a ≠ 9 → g1 a = g a) ∧ ∀ S, S < 2 ^ t → g1 9 S = nI (if S < s then (if hpb t lt S then zet w t S else 0) else zet w t S)) (2 ^ t) ?_ 0 0 g0 (Nat.zero_le _) ⟨rfl, hg, fun S hS => by rw [hz S hS]; simp⟩
    rintro s x1 g1 hs ⟨rfl, hg1, hz1⟩ B2 hB2
    have R1 := R.keep (g2 := g1) (fun a ha => hg1 a (by omega))
    unfold wX_extendRows_b61
    refine scX rfl b2 (br_le (by omega) (by omega) (fun v => h g1 hg1 (fun S hS => ?_)) (fun hlt2 => ?_))
    · rw [hz1 S hS, if_pos (show S < s by omega)]
      by_cases hb : hpb t lt S = true
      · rw [hb]; simp only [↓reduceIte]; rw [zet_all w hS]
      · simp [hb]
    · have hnext : ∀ g2 : Sg, (∀ a, a ≠ 9 → g2 a = g a) → (∀ S, S < 2 ^ t → S ≠ s → g2 9 S = g1 9 S) → g2 9 s = nI (if hpb t lt s then zet w t s else 0) → B2 (nI s + 1) g2 := by
        intro g2 hg2 hne hs2
        refine hB2 _ _ hlt2 ⟨nI_1 s, hg2, fun S hS => ?_⟩
        by_cases hSs : S = s
        · subst hSs
          rw [hs2, if_pos (Nat.lt_succ_self S)]
        · rw [hne S hS hSs, hz1 S hS]
          by_cases hlt3 : S < s
          · rw [if_pos hlt3, if_pos (show S < s + 1 by omega)]
          · rw [if_neg hlt3, if_neg (show ¬ S < s + 1 by omega)]
      refine hX A R1 (by omega) (fun Hs => y1 (hnext g1 hg1 (fun _ _ _ => rfl) ?_)) (fun Hs => y0 ⟨vp_in_nI (by omega) (by decide), fun g2 e2 => hnext g2 (fun a ha => by rw [e2, up2_ne _ _ _ ha]; exact hg1 a ha) (fun S _ hne => ?_) ?_⟩)
      · rw [hz1 s hlt2, if_neg (Nat.lt_irrefl s), hpb_t.mpr Hs]; rfl
      · rw [nI_clamp (by omega)] at e2
        rw [e2, up2_same, upd_ne _ _ hne]
      · rw [nI_clamp (by omega)] at e2
        rw [e2, up2_same, upd_eq, hpb_f.mpr Hs]; rfl
  · refine Lp2_up (fun s x2 g1 => x2 = nI s ∧ (∀ a, a ≠ 9 → g1 a = g a) ∧ ∀ S, S < 2 ^ n → g1 9 S = nI (if S < s then zet w (t + 1) S else zet w t S)) (2 ^ n) ?_ 0 0 g0 (Nat.zero_le _) ⟨rfl, hg, fun S hS => by rw [hz S hS]; simp⟩
    rintro s x2 g1 hs ⟨rfl, hg1, hz1⟩ B2 hB2
    unfold wX_extendRows_b12
    refine scX rfl b2 (br_le (by omega) (by omega) (fun v => hB _ _ hlt ⟨nI_1 t, hg1, fun S hS => by rw [hz1 S hS, if_pos (show S < s by omega)]⟩) (fun hlt2 => ?_))
    have hnext : ∀ g2 : Sg, (∀ a, a ≠ 9 → g2 a = g a) → (∀ S, S < 2 ^ n → S ≠ s → g2 9 S = g1 9 S) → g2 9 s = nI (zet w (t + 1) s) → B2 (nI s + 1) g2 := by
      intro g2 hg2 hne hs2
      refine hB2 _ _ hlt2 ⟨nI_1 s, hg2, fun S hS => ?_⟩
      by_cases hSs : S = s
      · subst hSs
        rw [hs2, if_pos (Nat.lt_succ_self S)]
      · rw [hne S hS hSs, hz1 S hS]
        by_cases hlt3 : S < s
        · rw [if_pos hlt3, if_pos (show S < s + 1 by omega)]
        · rw [if_neg hlt3, if_neg (show ¬ S < s + 1 by omega)]
    refine hasX (by omega) (by omega) ?_
    cases hb : s.testBit t with
    | false =>
      refine z0 (hnext g1 hg1 (fun _ _ _ => rfl) ?_)
      rw [hz1 s hlt2, if_neg (Nat.lt_irrefl s), zet, hb]; rfl
    | true =>
      have hx2 := xor_lt hlt2 hlt
      refine z1 ⟨vp_in_nI (by omega) (by decide), ?_, vp_in_nI (by omega) (by decide), fun g6 e6 => hnext g6 (fun a ha => by rw [e6, up2_ne _ _ _ ha]; exact hg1 a ha) (fun S _ hne => ?_) ?_⟩
      · rw [sh1 t (by omega), fb_xorI]; exact vp_in_nI (by omega) (by decide)
      · rw [nI_clamp (by omega)] at e6
        rw [e6, up2_same, upd_ne _ _ hne]
      · rw [nI_clamp (by omega), sh1 t (by omega), fb_xorI, nI_clamp (by omega)] at e6
        have hz2 : zet w (t + 1) (s ^^^ 2 ^ t) = zet w t (s ^^^ 2 ^ t) := by
          rw [zet, xor_bit, hb]; simp
        have hs1 : zet w (t + 1) s = zet w t s + zet w t (s ^^^ 2 ^ t) := by
          rw [zet, hb]; rfl
        rw [e6, up2_same, upd_eq, hz1 s hlt2, if_neg (Nat.lt_irrefl s), hz1 _ hx2, hz2, hs1, nI_add]
        congr 2
        split <;> rfl
theorem fiX {P : Int32 → Sg → Prop} {n k : Nat} {lt : Nat → Nat → Bool} {c : Nat → Nat} {wt : Nat → Int32} {tc cl : Int32} {tr : Int64} {g : Sg} (A : AS n k lt c wt) (R : RX n k lt c wt tc cl g) {hh : Nat} (t1 : 1 ≤ hh) (t3 : hh ≤ 3)
    (h : ∀ g2 : Sg, (∀ a, a < 7 → g2 a = g a) → P (nI (sm (Wl n lt (hh - 1)) (2 ^ n))) g2) : wX_fillings P tc cl tr g (nI hh) := by
  have hp8 := pw8 A.2.1
  have b2 := A.2.1
  have etc := R.1
  subst etc
  unfold wX_fillings
  refine htX_y t1 t3 (y1 ?_)
  refine Lp2_up (fun s x2 g0 => x2 = nI s ∧ (∀ a, a ≠ 9 → g0 a = g a) ∧ ∀ S, S < s → g0 9 S = nI (Wl n lt 0 S)) (2 ^ n) ?_ 0 0 g (Nat.zero_le _) ⟨rfl, fun _ _ => rfl, fun S hS => absurd hS (Nat.not_lt_zero S)⟩
  rintro s x2 g0 hs ⟨rfl, hg, hz⟩ B hB
  have R0 := R.keep (g2 := g0) (fun a ha => hg a (by omega))
  unfold wX_fillings_b11 wX_fillings_j37
  refine scX rfl b2 (br_le (by omega) (by omega) (fun u => ?_) (fun hlt => ?_))
  · have es : s = 2 ^ n := by omega
    subst es
    refine Lp2_up (fun l x2 g1 => x2 = nI (l + 2) ∧ (∀ a, a ≠ 9 → g1 a = g a) ∧ ∀ S, S < 2 ^ n → g1 9 S = nI (Wl n lt l S)) (hh - 1) ?_ 0 2 g0 (Nat.zero_le _) ⟨rfl, hg, hz⟩
    rintro l x2 g1 hl ⟨rfl, hg1, hz1⟩ B1 hB1
    have R1 := R.keep (g2 := g1) (fun a ha => hg1 a (by omega))
    unfold wX_fillings_b46
    refine br_lt (a := hh) (b := l + 2) (by omega) (by omega) (fun v => ?_) (fun v => exX A R1 hz1 (fun g2 hg2 hz2 => hB1 _ _ (by omega) ⟨nI_1 (l + 2), fun a ha => by rw [hg2 a ha, hg1 a ha], fun S hS => by rw [hz2 S hS]; rfl⟩))
    have el : l = hh - 1 := by omega
    subst el
    refine Lp3_up (fun s x2 x3 g2 => x3 = nI s ∧ g2 = g1 ∧ x2 = nI (sm (Wl n lt (hh - 1)) s)) (2 ^ n) ?_ 0 0 0 g1 (Nat.zero_le _) ⟨rfl, rfl, rfl⟩
    rintro s x2 x3 g2 hs ⟨rfl, rfl, rfl⟩ B2 hB2
    unfold wX_fillings_b65
    refine scX rfl b2 (br_le (by omega) (by omega) (fun z => ?_) (fun hlt => ⟨vp_in_nI (by omega) (by decide), fun y ey => hB2 _ _ _ hlt ⟨nI_1 s, rfl, ?_⟩⟩))
    · rw [show s = 2 ^ n by omega]; exact h g2 (fun a ha => hg1 a (by omega))
    · rw [ey, nI_clamp (by omega), hz1 s hlt, nI_add]; rfl
  · have key : ∀ y : Int32, y = nI (Wl n lt 0 s) → vp_in (nI s) 256 ∧ ∀ g_4 : Sg, g_4 = up2 g0 9 (nI s).toNatClampNeg y → B (nI s + 1) g_4 := by
      intro y ey
      refine ⟨vp_in_nI (by omega) (by decide), fun g4 e4 => hB _ _ hlt ⟨nI_1 s, fun a ha => by rw [e4, up2_ne _ _ _ ha]; exact hg a ha, fun S hS => ?_⟩⟩
      rw [nI_clamp (by omega)] at e4
      rw [e4, up2_same]
      rcases Nat.lt_succ_iff_lt_or_eq.mp hS with z | z
      · rw [upd_ne _ _ (by omega)]; exact hz S z
      · subst z; rw [upd_eq, ey]
    exact hX A R0 (by omega) (fun Hs => z1 (key 1 (by rw [Wl, hpb_t.mpr Hs]; rfl))) (fun Hs => z0 (key 0 (by rw [Wl, hpb_f.mpr Hs]; rfl)))
theorem rst_N {H f : Nat} (hH : 0 < H) (hH2 : H < 2 ^ 31) (hf : f < 2 ^ 31) : ∀ i, rst (nI H) (nI f) i = nI (f / H ^ i)
  | 0 => by simp [rst]
  | i + 1 => by
    have := Nat.div_le_self f (H ^ i)
    rw [rst, rst_N hH hH2 hf i, pk_div (by omega) hH hH2, Nat.div_div_eq_div_mul, Nat.pow_succ]
theorem dgt_N {H f : Nat} (hH : 0 < H) (hH2 : H < 2 ^ 31) (hf : f < 2 ^ 31) (i : Nat) : dgt (nI H) (nI f) i = nI (dig H f i) := by
  have := Nat.div_le_self f (H ^ i)
  unfold dgt dig
  rw [rst_N hH hH2 hf, pk_rem (by omega) hH hH2]
theorem Val_N {n : Nat} {lt : Nat → Nat → Bool} {H f : Nat} (hH : 0 < H) (hH2 : H ≤ 4) (hf : f < H ^ n) (hf2 : f < 2 ^ 31) : Val n lt (nI H) (nI f) ↔ Vd lt (dig H f) := by
  unfold Val Vd
  constructor
  · rintro ⟨-, -, h⟩ i k hl
    have h1 := h i k hl
    rw [dgt_N hH (by omega) hf2, dgt_N hH (by omega) hf2] at h1
    have d1 := dig_lt (f := f) (i := i) hH
    have d2 := dig_lt (f := f) (i := k) hH
    rcases Nat.lt_or_ge (dig H f i) (dig H f k) with q | q
    · exact absurd (nI_lt q (by omega)) h1
    · exact q
  · intro h
    refine ⟨nI_pos hf2, ?_, fun i k hl => ?_⟩
    · rw [rst_N hH (by omega) hf2, Nat.div_eq_of_lt hf]; rfl
    · have h1 := h i k hl
      have d1 := dig_lt (f := f) (i := i) hH
      rw [dgt_N hH (by omega) hf2, dgt_N hH (by omega) hf2]
      exact nI_nlt h1 (by omega)
theorem fiM {P : Int32 → Sg → Prop} {n k : Nat} {lt : Nat → Nat → Bool} {c : Nat → Nat} {wt : Nat → Int32} {tc cl : Int32} {tr : Int64} {g : Sg} (A : AS n k lt c wt) (R : RM n k lt c wt tc cl g) {hh : Nat} (t1 : 1 ≤ hh) (t3 : hh ≤ 3)
    (h : ∀ g2 : Sg, (∀ a, a < 4 → g2 a = g a) → P (nI (ctn (fun f => pdec (Vd lt (dig (hh + 1) f))) ((hh + 1) ^ n))) g2) : wM_fillings P tc cl tr g (nI hh) := by
  have b2 := A.2.1
  have etc := R.1
  subst etc
  unfold wM_fillings
  refine htM_y t1 t3 (y1 ?_)
  have hpw : (hh + 1) ^ n ≤ 65536 := Nat.le_trans (Nat.pow_le_pow_left (show hh + 1 ≤ 4 by omega) n) (Nat.le_trans (Nat.pow_le_pow_right (by decide) b2) (by decide))
  refine Lp3_up (fun i x2 x3 g0 => x3 = nI i ∧ x2 = nI ((hh + 1) ^ i) ∧ g0 = g) n ?_ 0 1 0 g (Nat.zero_le _) ⟨rfl, rfl, rfl⟩
  rintro i x2 x3 g0 hi ⟨rfl, rfl, rfl⟩ B hB
  unfold wM_fillings_b13
  refine br_le (by omega) (by omega) (fun u => ?_) (fun hlt y ey => hB _ _ _ hlt ⟨nI_1 i, by rw [ey, nI_1, pk_mul, Nat.pow_succ], rfl⟩)
  have ei : i = n := by omega
  subst ei
  refine Lp3_up (fun f x3 x4 g1 => x4 = nI f ∧ x3 = nI (ctn (fun f => pdec (Vd lt (dig (hh + 1) f))) f) ∧ ∀ a, a ≠ 7 → g1 a = g0 a) ((hh + 1) ^ i) ?_ 0 0 0 g0 (Nat.zero_le _) ⟨rfl, rfl, fun _ _ => rfl⟩
  rintro f x3 x4 g1 hf ⟨rfl, rfl, hg1⟩ B1 hB1
  have R1 := R.keep (g2 := g1) (fun a ha => hg1 a (by omega))
  unfold wM_fillings_b38 wM_fillings_j60
  refine br_le (by omega) (by omega) (fun v => ?_) (fun hlt => ?_)
  · rw [show f = (hh + 1) ^ i by omega]; exact h g1 (fun a ha => hg1 a (by omega))
  · have hV : Val i lt (nI hh + 1) (nI f) ↔ Vd lt (dig (hh + 1) f) := by rw [nI_1]; exact Val_N (by omega) (by omega) hlt (by omega)
    refine tkM A R1 t1 t3 (fun w g2 hg2 _ => z1 (fun y ey => hB1 _ _ _ hlt ⟨nI_1 f, ?_, fun a ha => by rw [hg2 a ha, hg1 a ha]⟩)) (fun w g2 hg2 => z0 (fun y ey => hB1 _ _ _ hlt ⟨nI_1 f, ?_, fun a ha => by rw [hg2 a ha, hg1 a ha]⟩))
    · rw [hV] at w
      rw [ey, nI_1, ctn, pdec_t.mpr w]; rfl
    · rw [hV] at w
      rw [ey, ctn, pdec_f.mpr w, Int32.add_zero]; rfl
theorem st_fillings : Step_fillings Rel := by
  intro tc cl tr g tc' cl' tr' g' a1 hR
  obtain ⟨n, k, lt, c, wt, A, X, M, e⟩ := id hR
  by_cases h1 : ∃ q, 1 ≤ q ∧ q ≤ 3 ∧ a1 = nI q
  · obtain ⟨q, q1, q3, rfl⟩ := h1
    refine fiX A X q1 q3 (fun g2 hg2 => fiM A M q1 q3 (fun g2' hg2' => ⟨?_, Rel.scrX A X M e hg2 hg2'⟩))
    rw [fill_all A.2.2.2.1, show q - 1 + 2 = q + 1 by omega]
  · have hx : ∀ q, 1 ≤ q → q ≤ 3 → a1 ≠ nI q := fun q u1 u2 u3 => h1 ⟨q, u1, u2, u3⟩
    unfold wX_fillings
    exact htX_n hx (y0 (htM_n hx (y0 ⟨rfl, hR⟩)))
theorem steps_ok : Steps_ok Rel := ⟨st_things, st_lay, st_below, st_weight, st_say, st_hush, st_heap, st_many, st_flip, st_turn, st_orbit, st_orbits, st_measure, st_mean, st_even, st_fillings, st_bend, st_round, st_period, st_counts, st_at, st_stays, st_count, st_trace⟩
theorem rel0 : Rel 3 0 0 (fun _ _ => 0) 3 0 0 (fun _ _ => 0) := by
  refine ⟨3, 0, fun _ _ => false, fun _ => 0, fun _ => 0, ⟨by decide, by decide, by decide, ⟨fun i k h => by simp at h, fun i k m h => by simp at h⟩, fun j hj => absurd hj (Nat.not_lt_zero j), fun i _ => (by decide : -9 ≤ (0 : Int32).toInt ∧ (0 : Int32).toInt ≤ 9)⟩, ⟨rfl, rfl, fun i _ => ?_, fun i _ => ?_, fun _ _ => rfl, fun j hj => absurd hj (Nat.not_lt_zero j)⟩, ⟨rfl, rfl, fun i j _ _ => rfl, fun _ _ => rfl, fun j hj => absurd hj (Nat.not_lt_zero j)⟩, rfl⟩
  · rw [mkS_none]; rfl
  · rw [mkS_none]; rfl
