-- X1_in
set_option maxHeartbeats 4000000 in
set_option maxRecDepth 100000 in
theorem cM_in (l : Launch) (x0 : Int32) (x1 : Int32) (x2 : Int32) (P : Int32 → Prop) (hw : wM_in P x0 x1 x2) : Met l yX1_in wsX1_in ({ frames := 0, cells := 0, slots := 0, locals := 0 }) (va_Pc [.int x0, .int x1, .int x2] (fun _ => True)) (vp_Si P) 0 0 (fun _ => False) := by
  refine Met.ofW (cc := cX1_in) (maxL := 3) (ret := (some .boolean)) (by decide) rfl ?_
  intro p e s m args below meth c s₁ B0 hml hv
  obtain ⟨hargs, -⟩ := hv
  have hx := B0.exec
  have hb := B0.bytes
  have hr := B0.returns
  have hts := atoms_spec (ws := wsX1_in) B0.pre
  have hown : s.vm.findClass RX1 = some m.cls := findClass_of_methodNamed B0.named
  have hlocks := B0.notSynchronized
  subst hargs
  unfold wM_in at hw
  have hl := lv_entry ([.int x0, .int x1, .int x2]) (n := 3) (Nat.le_of_ble_eq_true rfl)
  rw [lg_entry_eq]
  generalize (lg_sl ([.int x0, .int x1, .int x2]) ++ List.replicate (3 - (lg_sl ([.int x0, .int x1, .int x2])).length) Slot.unset).toArray = ls at hl ⊢
  have hl : lv_has ls 3 [(0, .int x0), (1, .int x1), (2, .int x2)] := hl
  refine lv_iload_n hx hb dX1_in_0 rfl (lv_at hl 0 rfl) ?_
  refine lv_iload_n hx hb dX1_in_1 rfl (lv_at hl 1 rfl) ?_
  refine lv_icmp_lt (tgt := 14) hx hb dX1_in_2 (by decide) (fun hc => ?_) (fun hc => ?_)
  · replace hw := hw.1 hc
    clear hc
    refine lv_iconst (v := (0 : Int32)) hx hb dX1_in_14 (by decide) ?_
    exact W.zret (v := (0 : Int32)) hx hb hr rfl (fun t ht hW => ⟨_, rfl, hw, ht⟩) (fun q h => absurd h List.not_mem_nil) dX1_in_15
  · replace hw := hw.2 hc
    clear hc
    refine lv_iload_n hx hb dX1_in_5 rfl (lv_at hl 0 rfl) ?_
    refine lv_iload_n hx hb dX1_in_6 rfl (lv_at hl 2 rfl) ?_
    refine lv_icmp_gt (tgt := 14) hx hb dX1_in_7 (by decide) (fun hc => ?_) (fun hc => ?_)
    · replace hw := hw.1 hc
      clear hc
      refine lv_iconst (v := (0 : Int32)) hx hb dX1_in_14 (by decide) ?_
      exact W.zret (v := (0 : Int32)) hx hb hr rfl (fun t ht hW => ⟨_, rfl, hw, ht⟩) (fun q h => absurd h List.not_mem_nil) dX1_in_15
    · replace hw := hw.2 hc
      clear hc
      refine lv_iconst (v := (1 : Int32)) hx hb dX1_in_10 (by decide) ?_
      refine lv_goto (tgt := 15) hx hb dX1_in_11 (by decide) ?_
      exact W.zret (v := (1 : Int32)) hx hb hr rfl (fun t ht hW => ⟨_, rfl, hw, ht⟩) (fun q h => absurd h List.not_mem_nil) dX1_in_15
-- X1_isThing
set_option maxHeartbeats 4000000 in
set_option maxRecDepth 100000 in
theorem cM_isThing (l : Launch) (dC : Nat → ClassId) (dI : Nat → Nat → Nat) (h : Nat) (ad : Nat → Nat) (ca : Nat → ClassId) (tc cl : Int32) (tr : Int64) (g : Sg) (x1 : Int32) (P : Int32 → Prop) (hw : wM_isThing P tc cl tr g x1) : Met l yX1_isThing wsX1_isThing ({ frames := 1, cells := 0, slots := 0, locals := 22 }) (va_Pc [.ref h, .int x1] (fun U => va_P (dC, dI) vwCl (ML h ad ca tc cl tr g) U.heap ∧ va_K (dC, dI) vwCl (MT ca) U)) (vp_Si P) 0 0 (fun _ => False) := by
  refine Met.ofW (cc := cX1_isThing) (maxL := 2) (ret := (some .boolean)) (by decide) rfl ?_
  intro p e s m args below meth c s₁ B0 hml hv
  obtain ⟨hargs, hP, hK⟩ := hv
  have hx := B0.exec
  have hb := B0.bytes
  have hr := B0.returns
  have hts := atoms_spec (ws := wsX1_isThing) B0.pre
  have hown : s.vm.findClass RX1 = some m.cls := findClass_of_methodNamed B0.named
  have hlocks := B0.notSynchronized
  have inw : ∀ w ∈ wsX10, w ∈ wsX1_isThing := fun w h => List.mem_cons_of_mem _ (List.mem_append_right _ h)
  have f7 : (Cond.fieldLink RX1 7 "FlipHeapsModel" "things" "I").before args s = true := hts _ (by decide +kernel)
  subst hargs
  unfold wM_isThing at hw
  have hl := lv_entry ([.ref h, .int x1]) (n := 2) (Nat.le_of_ble_eq_true rfl)
  rw [lg_entry_eq]
  generalize (lg_sl ([.ref h, .int x1]) ++ List.replicate (2 - (lg_sl ([.ref h, .int x1])).length) Slot.unset).toArray = ls at hl ⊢
  have hl : lv_has ls 2 [(0, .ref h), (1, .int x1)] := hl
  refine lv_iload_n hx hb dX1_isThing_0 rfl (lv_at hl 1 rfl) ?_
  refine lv_iconst (v := (0 : Int32)) hx hb dX1_isThing_1 (by decide) ?_
  refine lv_aload_n hx hb dX1_isThing_2 rfl (lv_at hl 0 rfl) ?_
  refine va_get (D := (dC, dI)) (ci := 1) (C := RX1) (T := TX1) (N := 9) hx hb hts inw hown hK hP 0 rfl rfl 0 (by decide) f7 (fun _ h9 => h9) rfl dX1_isThing_3 ?_
  refine lv_iconst (v := (1 : Int32)) hx hb dX1_isThing_6 (by decide) ?_
  refine lv_isub hx hb dX1_isThing_7 ?_
  refine vp_callSi (W.runS (As := [.int x1, .int (0 : Int32), .int ((tc - (1 : Int32)))]) (rest := []) ⟨hx, hb, hml, hown, hts⟩ (cM_in l x1 (0 : Int32) (tc - (1 : Int32)) _ hw) (va_cwS 3 hts gX1_isThing_X1_in rfl rfl rfl (by decide +kernel) ⟨Nat.le_of_ble_eq_true rfl, Nat.le_of_ble_eq_true rfl⟩) ⟨fun a U g mk q => q, fun U hU hW => ⟨rfl, trivial⟩⟩ rfl rfl hl.1 rfl (lv_room (Nat.le_of_ble_eq_true rfl)) dX1_isThing_8 ⟨Nat.zero_le _, Nat.zero_le _⟩) (fun r_1 hw => ?_)
  try dsimp only at hw
  obtain ⟨hisb, hw⟩ := hw
  exact W.zret (v := r_1) hx hb hr (isB_nar hisb) (fun t ht hW => ⟨_, rfl, hw, ht⟩) (fun q h => absurd h List.not_mem_nil) dX1_isThing_11
-- X1_things
set_option maxHeartbeats 4000000 in
set_option maxRecDepth 100000 in
theorem cM_things (l : Launch) (dC : Nat → ClassId) (dI : Nat → Nat → Nat) (h : Nat) (ad : Nat → Nat) (ca : Nat → ClassId) (sz : Nat) (tc cl : Int32) (tr : Int64) (g : Sg) (x1 : Int32) (P : Int32 → Int32 → Int32 → Int64 → Sg → Prop) (hw : wM_things P tc cl tr g x1) : Met l yX1_things wsX1_things ({ frames := 1, cells := 0, slots := 0, locals := 22 }) (va_Pc [.ref h, .int x1] (fun U => U.heap.size = sz ∧ va_P (dC, dI) vwCl (ML h ad ca tc cl tr g) U.heap ∧ va_K (dC, dI) vwCl (MT ca) U ∧ va_D (fun _ => True) (ML h ad ca tc cl tr g))) (va_Qi (fun (r : Int32) (u : Int32 × Int32 × Int64 × Sg) => P r u.1 u.2.1 u.2.2.1 u.2.2.2) (at_M2 dC dI (va_A (ML h ad ca tc cl tr g) sz) h ad ca) (va_A (ML h ad ca tc cl tr g) sz)) 0 0 (va_A (ML h ad ca tc cl tr g) sz) := by
  refine Met.ofW (cc := cX1_things) (maxL := 4) (ret := (some .int)) (by decide) rfl ?_
  intro p e s m args below meth c s₁ B0 hml hv
  obtain ⟨hargs, hsz, hP, hK, hD0⟩ := hv
  have hx := B0.exec
  have hb := B0.bytes
  have hr := B0.returns
  have hts := atoms_spec (ws := wsX1_things) B0.pre
  have hown : s.vm.findClass RX1 = some m.cls := findClass_of_methodNamed B0.named
  have hlocks := B0.notSynchronized
  have inw : ∀ w ∈ wsX10, w ∈ wsX1_things := fun w h => List.mem_cons_of_mem _ (List.mem_append_right _ h)
  have f7 : (Cond.fieldLink RX1 7 "FlipHeapsModel" "things" "I").before args s = true := hts _ (by decide +kernel)
  have f13 : (Cond.fieldLink RX1 13 "FlipHeapsModel" "isBelow" "[Z").before args s = true := hts _ (by decide +kernel)
  have f17 : (Cond.fieldLink RX1 17 "FlipHeapsModel" "weight" "[I").before args s = true := hts _ (by decide +kernel)
  have f33 : (Cond.fieldLink RX1 33 "FlipHeapsModel" "said" "I").before args s = true := hts _ (by decide +kernel)
  subst hsz
  have hD := hD0.self (sz := s.heap.size)
  generalize hAe : va_A (ML h ad ca tc cl tr g) s.heap.size = A at hD ⊢
  have hA : ∀ q : Nat, s.heap.size ≤ q → A q := fun q h => by rw [← hAe]; exact Or.inr h
  clear hAe hD0
  have hS : va_S A s.heap s.heap [] := va_S.rf
  have lp_29 : ∀ (x2 : Int32) (K48 : Int32 → Int32 → Int64 → Sg → Prop) (hK48 : ∀ (tc : Int32) (cl : Int32) (tr : Int64) (g : Sg) (H : Heap) (locs : List Loc) (ls : Array Slot), K48 tc cl tr g → va_P (dC, dI) vwCl (ML h ad ca tc cl tr g) H → va_D A (ML h ad ca tc cl tr g) → va_S A s.heap H locs → lv_has ls 4 [(0, .ref h), (2, .int x2)] → W p l e (headSpec wsX1_things ({ frames := 1, cells := 0, slots := 0, locals := 22 })).room s m args below meth c H locs 0 0 (MQ below (va_Qi (fun (r : Int32) (u : Int32 × Int32 × Int64 × Sg) => P r u.1 u.2.1 u.2.2.1 u.2.2.2) (at_M2 dC dI A h ad ca) A) args s 0 0 A) (F0 m 48 ls [])), ∀ (n : Nat) (x3 : Int32) (tc : Int32) (cl : Int32) (tr : Int64) (g : Sg) (H : Heap) (locs : List Loc) (ls : Array Slot), Lp5 (wM_things_b29 P x2 K48) n x3 tc cl tr g → va_P (dC, dI) vwCl (ML h ad ca tc cl tr g) H → va_D A (ML h ad ca tc cl tr g) → va_S A s.heap H locs → lv_has ls 4 [(0, .ref h), (2, .int x2), (3, .int x3)] → W p l e (headSpec wsX1_things ({ frames := 1, cells := 0, slots := 0, locals := 22 })).room s m args below meth c H locs 0 0 (MQ below (va_Qi (fun (r : Int32) (u : Int32 × Int32 × Int64 × Sg) => P r u.1 u.2.1 u.2.2.1 u.2.2.2) (at_M2 dC dI A h ad ca) A) args s 0 0 A) (F0 m 29 ls []) := by
    intro x2 K48 hK48
    intro n
    induction n with
    | zero => intro x3 tc cl tr g H locs ls hw; exact False.elim hw
    | succ n hB =>
      intro x3 tc cl tr g H locs ls hw hP hD hS hl
      replace hw : wM_things_b29 P x2 K48 (Lp5 (wM_things_b29 P x2 K48) n) x3 tc cl tr g := hw
      unfold wM_things_b29 at hw
      refine lv_iload_n hx hb dX1_things_29 rfl (lv_at hl 2 rfl) ?_
      refine lv_bipush (v := (64 : Int32)) hx hb dX1_things_30 (by decide) ?_
      refine lv_icmp_ge (tgt := 48) hx hb dX1_things_32 (by decide) (fun hc => ?_) (fun hc => ?_)
      · replace hw := hw.1 hc
        clear hc
        exact hK48 tc cl tr g H locs ls hw hP hD hS (lv_sub hl [0, 1] rfl)
      · replace hw := hw.2 hc
        clear hc
        refine lv_aload_n hx hb dX1_things_35 rfl (lv_at hl 0 rfl) ?_
        refine va_get (D := (dC, dI)) (ci := 1) (C := RX1) (T := TX1) (N := 9) hx hb hts inw hown hK hP 0 rfl rfl 1 (by decide) f13 (fun _ h9 => h9) rfl dX1_things_36 ?_
        refine lv_iload_n hx hb dX1_things_39 rfl (lv_at hl 2 rfl) ?_
        refine lv_iconst (v := (0 : Int32)) hx hb dX1_things_40 (by decide) ?_
        obtain ⟨hin, hw⟩ := hw
        refine va_zast hx hb hK hP hD hS 1 0 rfl rfl hin dX1_things_41 (fun H locs hP hD hS => ?_)
        obtain ⟨g_1, hg⟩ : ∃ z : Sg, z = up2 g 1 (x3).toNatClampNeg (vp_nar .boolean (0 : Int32)) := ⟨_, rfl⟩
        replace hw := hw g_1 hg
        have hP : va_P (dC, dI) vwCl (ML h ad ca tc cl tr g_1) H := by rw [hg]; exact hP
        have hD : va_D A (ML h ad ca tc cl tr g_1) := by rw [hg]; exact hD
        clear hg
        refine lv_iinc (v := (x3 + 1)) (lv' := [(3, .int ((x3 + 1))), (0, .ref h), (2, .int x2)]) hx hb dX1_things_42 hl (k := 2) rfl rfl (by decide) rfl (fun ls hl => ?_)
        refine lv_goto (tgt := 29) hx hb dX1_things_45 (by decide) ?_
        exact hB (x3 + 1) tc cl tr g_1 H locs ls hw hP hD hS (lv_sub hl [1, 2, 0] rfl)
  have lp_50 : ∀ (x2 : Int32), ∀ (n : Nat) (x3 : Int32) (tc : Int32) (cl : Int32) (tr : Int64) (g : Sg) (H : Heap) (locs : List Loc) (ls : Array Slot), Lp5 (wM_things_b50 P x2) n x3 tc cl tr g → va_P (dC, dI) vwCl (ML h ad ca tc cl tr g) H → va_D A (ML h ad ca tc cl tr g) → va_S A s.heap H locs → lv_has ls 4 [(0, .ref h), (2, .int x2), (3, .int x3)] → W p l e (headSpec wsX1_things ({ frames := 1, cells := 0, slots := 0, locals := 22 })).room s m args below meth c H locs 0 0 (MQ below (va_Qi (fun (r : Int32) (u : Int32 × Int32 × Int64 × Sg) => P r u.1 u.2.1 u.2.2.1 u.2.2.2) (at_M2 dC dI A h ad ca) A) args s 0 0 A) (F0 m 50 ls []) := by
    intro x2
    intro n
    induction n with
    | zero => intro x3 tc cl tr g H locs ls hw; exact False.elim hw
    | succ n hB =>
      intro x3 tc cl tr g H locs ls hw hP hD hS hl
      replace hw : wM_things_b50 P x2 (Lp5 (wM_things_b50 P x2) n) x3 tc cl tr g := hw
      unfold wM_things_b50 at hw
      refine lv_iload_n hx hb dX1_things_50 rfl (lv_at hl 2 rfl) ?_
      refine lv_bipush (v := (8 : Int32)) hx hb dX1_things_51 (by decide) ?_
      refine lv_icmp_ge (tgt := 69) hx hb dX1_things_53 (by decide) (fun hc => ?_) (fun hc => ?_)
      · replace hw := hw.1 hc
        clear hc
        refine lv_iload_n hx hb dX1_things_69 rfl (lv_at hl 1 rfl) ?_
        exact W.iret (v := x2) hx hb hr (fun t ht hW => ⟨⟨x2, (tc, cl, tr, g), rfl, hw, by rw [ht]; exact hP, va_K.moved hW.alike hK, hD⟩, hS.F ht⟩) hS.2.2 dX1_things_70
      · replace hw := hw.2 hc
        clear hc
        refine lv_aload_n hx hb dX1_things_56 rfl (lv_at hl 0 rfl) ?_
        refine va_get (D := (dC, dI)) (ci := 1) (C := RX1) (T := TX1) (N := 9) hx hb hts inw hown hK hP 0 rfl rfl 2 (by decide) f17 (fun _ h9 => h9) rfl dX1_things_57 ?_
        refine lv_iload_n hx hb dX1_things_60 rfl (lv_at hl 2 rfl) ?_
        refine lv_iconst (v := (0 : Int32)) hx hb dX1_things_61 (by decide) ?_
        obtain ⟨hin, hw⟩ := hw
        refine va_iast hx hb hK hP hD hS 2 1 rfl rfl hin dX1_things_62 (fun H locs hP hD hS => ?_)
        obtain ⟨g_2, hg⟩ : ∃ z : Sg, z = up2 g 2 (x3).toNatClampNeg (0 : Int32) := ⟨_, rfl⟩
        replace hw := hw g_2 hg
        have hP : va_P (dC, dI) vwCl (ML h ad ca tc cl tr g_2) H := by rw [hg]; exact hP
        have hD : va_D A (ML h ad ca tc cl tr g_2) := by rw [hg]; exact hD
        clear hg
        refine lv_iinc (v := (x3 + 1)) (lv' := [(3, .int ((x3 + 1))), (0, .ref h), (2, .int x2)]) hx hb dX1_things_63 hl (k := 2) rfl rfl (by decide) rfl (fun ls hl => ?_)
        refine lv_goto (tgt := 50) hx hb dX1_things_66 (by decide) ?_
        exact hB (x3 + 1) tc cl tr g_2 H locs ls hw hP hD hS (lv_sub hl [1, 2, 0] rfl)
  subst hargs
  unfold wM_things at hw
  have hl := lv_entry ([.ref h, .int x1]) (n := 4) (Nat.le_of_ble_eq_true rfl)
  rw [lg_entry_eq]
  generalize (lg_sl ([.ref h, .int x1]) ++ List.replicate (4 - (lg_sl ([.ref h, .int x1])).length) Slot.unset).toArray = ls at hl ⊢
  have hl : lv_has ls 4 [(0, .ref h), (1, .int x1)] := hl
  obtain ⟨H, hHe⟩ : ∃ z : Heap, z = s.heap := ⟨_, rfl⟩
  obtain ⟨locs, hLe⟩ : ∃ z : List Loc, z = [] := ⟨_, rfl⟩
  have hS : va_S A s.heap H locs := by rw [hHe, hLe]; exact hS
  have hP : va_P (dC, dI) vwCl (ML h ad ca tc cl tr g) H := by rw [hHe]; exact hP
  have hgo : W p l e (headSpec wsX1_things ({ frames := 1, cells := 0, slots := 0, locals := 22 })).room s m ([.ref h, .int x1] : List Value).toArray below meth c H locs 0 0 (MQ below (va_Qi (fun (r : Int32) (u : Int32 × Int32 × Int64 × Sg) => P r u.1 u.2.1 u.2.2.1 u.2.2.2) (at_M2 dC dI A h ad ca) A) ([.ref h, .int x1] : List Value).toArray s 0 0 A) (F0 m 0 ls []) := by
    clear hHe hLe
    refine lv_iload_n hx hb dX1_things_0 rfl (lv_at hl 1 rfl) ?_
    refine lv_iconst (v := (1 : Int32)) hx hb dX1_things_1 (by decide) ?_
    refine lv_bipush (v := (8 : Int32)) hx hb dX1_things_2 (by decide) ?_
    refine vp_callSi (W.runS (As := [.int x1, .int (1 : Int32), .int (8 : Int32)]) (rest := []) ⟨hx, hb, hml, hown, hts⟩ (cM_in l x1 (1 : Int32) (8 : Int32) _ hw) (va_cwS 3 hts gX1_things_X1_in rfl rfl rfl (by decide +kernel) ⟨Nat.le_of_ble_eq_true rfl, Nat.le_of_ble_eq_true rfl⟩) ⟨fun a U g mk q => q, fun U hU hW => ⟨rfl, trivial⟩⟩ rfl rfl hl.1 rfl (lv_room (Nat.le_of_ble_eq_true rfl)) dX1_things_4 ⟨Nat.zero_le _, Nat.zero_le _⟩) (fun r_3 hw => ?_)
    try dsimp only at hw
    refine lv_if_ne (tgt := 12) hx hb dX1_things_7 (by decide) (fun hc => ?_) (fun hc => ?_)
    · replace hw := hw.1 hc
      clear hc
      refine lv_aload_n hx hb dX1_things_12 rfl (lv_at hl 0 rfl) ?_
      refine va_get (D := (dC, dI)) (ci := 1) (C := RX1) (T := TX1) (N := 9) hx hb hts inw hown hK hP 0 rfl rfl 0 (by decide) f7 (fun _ h9 => h9) rfl dX1_things_13 ?_
      refine lv_istore_n (lv' := [(2, .int tc), (0, .ref h), (1, .int x1)]) hx hb dX1_things_16 rfl hl (by decide) rfl (fun ls hl => ?_)
      refine lv_aload_n hx hb dX1_things_17 rfl (lv_at hl 1 rfl) ?_
      refine lv_iload_n hx hb dX1_things_18 rfl (lv_at hl 2 rfl) ?_
      refine va_put (D := (dC, dI)) (ci := 1) (v := .int x1) (ty := .int) (C := RX1) (T := TX1) (N := 9) hx hb hts inw tyX1 tyX1_ok nmX1 hown hK hP hD hS 0 rfl rfl 0 (by decide) f7 (fun _ h9 => h9) rfl (by decide +kernel) rfl rfl (Nat.le_of_ble_eq_true rfl) dX1_things_19 (fun H locs hP hD hS => ?_)
      have hP : va_P (dC, dI) vwCl (ML h ad ca x1 cl tr g) H := hP
      have hD : va_D A (ML h ad ca x1 cl tr g) := hD
      refine lv_aload_n hx hb dX1_things_22 rfl (lv_at hl 1 rfl) ?_
      refine lv_iconst (v := (0 : Int32)) hx hb dX1_things_23 (by decide) ?_
      refine va_put (D := (dC, dI)) (ci := 1) (v := .int (0 : Int32)) (ty := .int) (C := RX1) (T := TX1) (N := 9) hx hb hts inw tyX1 tyX1_ok nmX1 hown hK hP hD hS 0 rfl rfl 4 (by decide) f33 (fun _ h9 => h9) rfl (by decide +kernel) rfl rfl (Nat.le_of_ble_eq_true rfl) dX1_things_24 (fun H locs hP hD hS => ?_)
      have hP : va_P (dC, dI) vwCl (ML h ad ca x1 (0 : Int32) tr g) H := hP
      have hD : va_D A (ML h ad ca x1 (0 : Int32) tr g) := hD
      refine lv_iconst (v := (0 : Int32)) hx hb dX1_things_27 (by decide) ?_
      refine lv_istore_n (lv' := [(3, .int (0 : Int32)), (2, .int tc), (0, .ref h), (1, .int x1)]) hx hb dX1_things_28 rfl hl (by decide) rfl (fun ls hl => ?_)
      obtain ⟨n_9, hw⟩ := hw
      refine lp_29 tc _ ?_ n_9 (0 : Int32) x1 (0 : Int32) tr g H locs ls hw hP hD hS (lv_sub hl [2, 1, 0] rfl)
      · intro tc_4 cl_5 tr_6 g_7 H locs ls hw hP hD hS hl
        try dsimp only at hw
        refine lv_iconst (v := (0 : Int32)) hx hb dX1_things_48 (by decide) ?_
        refine lv_istore_n (lv' := [(3, .int (0 : Int32)), (0, .ref h), (2, .int tc)]) hx hb dX1_things_49 rfl hl (by decide) rfl (fun ls hl => ?_)
        obtain ⟨n_8, hw⟩ := hw
        exact lp_50 tc n_8 (0 : Int32) tc_4 cl_5 tr_6 g_7 H locs ls hw hP hD hS (lv_sub hl [1, 2, 0] rfl)
    · replace hw := hw.2 hc
      clear hc
      refine lv_iconst (v := (-1 : Int32)) hx hb dX1_things_10 (by decide) ?_
      exact W.iret (v := (-1 : Int32)) hx hb hr (fun t ht hW => ⟨⟨(-1 : Int32), (tc, cl, tr, g), rfl, hw, by rw [ht]; exact hP, va_K.moved hW.alike hK, hD⟩, hS.F ht⟩) hS.2.2 dX1_things_11
  rw [hHe, hLe] at hgo
  exact hgo
-- X1_lay
set_option maxHeartbeats 4000000 in
set_option maxRecDepth 100000 in
theorem cM_lay (l : Launch) (dC : Nat → ClassId) (dI : Nat → Nat → Nat) (h : Nat) (ad : Nat → Nat) (ca : Nat → ClassId) (sz : Nat) (tc cl : Int32) (tr : Int64) (g : Sg) (x1 : Int32) (x2 : Int32) (P : Int32 → Sg → Prop) (hw : wM_lay P tc cl tr g x1 x2) : Met l yX1_lay wsX1_lay ({ frames := 2, cells := 0, slots := 0, locals := 43 }) (va_Pc [.ref h, .int x1, .int x2] (fun U => U.heap.size = sz ∧ va_P (dC, dI) vwCl (ML h ad ca tc cl tr g) U.heap ∧ va_K (dC, dI) vwCl (MT ca) U ∧ va_D (fun _ => True) (ML h ad ca tc cl tr g))) (va_Qi (fun (r : Int32) (u : Sg) => P r u) (at_M1 dC dI (va_A (ML h ad ca tc cl tr g) sz) h ad ca tc cl tr) (va_A (ML h ad ca tc cl tr g) sz)) 0 0 (va_A (ML h ad ca tc cl tr g) sz) := by
  refine Met.ofW (cc := cX1_lay) (maxL := 6) (ret := (some .int)) (by decide) rfl ?_
  intro p e s m args below meth c s₁ B0 hml hv
  obtain ⟨hargs, hsz, hP, hK, hD0⟩ := hv
  have hx := B0.exec
  have hb := B0.bytes
  have hr := B0.returns
  have hts := atoms_spec (ws := wsX1_lay) B0.pre
  have hown : s.vm.findClass RX1 = some m.cls := findClass_of_methodNamed B0.named
  have hlocks := B0.notSynchronized
  have inw : ∀ w ∈ wsX10, w ∈ wsX1_lay := fun w h => List.mem_cons_of_mem _ (List.mem_append_right _ h)
  have f7 : (Cond.fieldLink RX1 7 "FlipHeapsModel" "things" "I").before args s = true := hts _ (by decide +kernel)
  have f13 : (Cond.fieldLink RX1 13 "FlipHeapsModel" "isBelow" "[Z").before args s = true := hts _ (by decide +kernel)
  subst hsz
  have hD := hD0.self (sz := s.heap.size)
  generalize hAe : va_A (ML h ad ca tc cl tr g) s.heap.size = A at hD ⊢
  have hA : ∀ q : Nat, s.heap.size ≤ q → A q := fun q h => by rw [← hAe]; exact Or.inr h
  clear hAe hD0
  have hS : va_S A s.heap s.heap [] := va_S.rf
  have jn_148 : ∀ (B : Int32 → Sg → Prop) (K155 : Sg → Prop) (x3 : Int32) (x4 : Int32) (x5 : Int32) (y1 : Int32) (y2 : Int32) (g : Sg) (hB : ∀ (x5 : Int32) (g : Sg) (H : Heap) (locs : List Loc) (ls : Array Slot), B x5 g → va_P (dC, dI) vwCl (ML h ad ca tc cl tr g) H → va_D A (ML h ad ca tc cl tr g) → va_S A s.heap H locs → lv_has ls 6 [(0, .ref h), (3, .int x3), (4, .int x4), (5, .int x5)] → W p l e (headSpec wsX1_lay ({ frames := 2, cells := 0, slots := 0, locals := 43 })).room s m args below meth c H locs 0 0 (MQ below (va_Qi (fun (r : Int32) (u : Sg) => P r u) (at_M1 dC dI A h ad ca tc cl tr) A) args s 0 0 A) (F0 m 76 ls [])) (hK155 : ∀ (g : Sg) (H : Heap) (locs : List Loc) (ls : Array Slot), K155 g → va_P (dC, dI) vwCl (ML h ad ca tc cl tr g) H → va_D A (ML h ad ca tc cl tr g) → va_S A s.heap H locs → lv_has ls 6 [(0, .ref h), (3, .int x3), (4, .int x4)] → W p l e (headSpec wsX1_lay ({ frames := 2, cells := 0, slots := 0, locals := 43 })).room s m args below meth c H locs 0 0 (MQ below (va_Qi (fun (r : Int32) (u : Sg) => P r u) (at_M1 dC dI A h ad ca tc cl tr) A) args s 0 0 A) (F0 m 155 ls [])) (H : Heap) (locs : List Loc) (ls : Array Slot), wM_lay_j148 P tc cl tr B K155 x3 x4 x5 y1 y2 g → va_P (dC, dI) vwCl (ML h ad ca tc cl tr g) H → va_D A (ML h ad ca tc cl tr g) → va_S A s.heap H locs → lv_has ls 6 [(0, .ref h), (3, .int x3), (4, .int x4), (5, .int x5)] → W p l e (headSpec wsX1_lay ({ frames := 2, cells := 0, slots := 0, locals := 43 })).room s m args below meth c H locs 0 0 (MQ below (va_Qi (fun (r : Int32) (u : Sg) => P r u) (at_M1 dC dI A h ad ca tc cl tr) A) args s 0 0 A) (F0 m 148 ls [.int y2, .int y1, .ref (ad 1)]) := by
    intro B K155 x3 x4 x5 y1 y2 g hB hK155 H locs ls hw hP hD hS hl
    unfold wM_lay_j148 at hw
    obtain ⟨hin, hw⟩ := hw
    refine va_zast hx hb hK hP hD hS 1 0 rfl rfl hin dX1_lay_148 (fun H locs hP hD hS => ?_)
    obtain ⟨g_1, hg⟩ : ∃ z : Sg, z = up2 g 1 (y1).toNatClampNeg (vp_nar .boolean y2) := ⟨_, rfl⟩
    replace hw := hw g_1 hg
    have hP : va_P (dC, dI) vwCl (ML h ad ca tc cl tr g_1) H := by rw [hg]; exact hP
    have hD : va_D A (ML h ad ca tc cl tr g_1) := by rw [hg]; exact hD
    clear hg
    refine lv_iinc (v := (x5 + 1)) (lv' := [(5, .int ((x5 + 1))), (0, .ref h), (3, .int x3), (4, .int x4)]) hx hb dX1_lay_149 hl (k := 3) rfl rfl (by decide) rfl (fun ls hl => ?_)
    refine lv_goto (tgt := 76) hx hb dX1_lay_152 (by decide) ?_
    exact hB (x5 + 1) g_1 H locs ls hw hP hD hS (lv_sub hl [1, 2, 3, 0] rfl)
  have jn_147 : ∀ (B : Int32 → Sg → Prop) (K155 : Sg → Prop) (x3 : Int32) (x4 : Int32) (x5 : Int32) (y1 : Int32) (g : Sg) (hB : ∀ (x5 : Int32) (g : Sg) (H : Heap) (locs : List Loc) (ls : Array Slot), B x5 g → va_P (dC, dI) vwCl (ML h ad ca tc cl tr g) H → va_D A (ML h ad ca tc cl tr g) → va_S A s.heap H locs → lv_has ls 6 [(0, .ref h), (3, .int x3), (4, .int x4), (5, .int x5)] → W p l e (headSpec wsX1_lay ({ frames := 2, cells := 0, slots := 0, locals := 43 })).room s m args below meth c H locs 0 0 (MQ below (va_Qi (fun (r : Int32) (u : Sg) => P r u) (at_M1 dC dI A h ad ca tc cl tr) A) args s 0 0 A) (F0 m 76 ls [])) (hK155 : ∀ (g : Sg) (H : Heap) (locs : List Loc) (ls : Array Slot), K155 g → va_P (dC, dI) vwCl (ML h ad ca tc cl tr g) H → va_D A (ML h ad ca tc cl tr g) → va_S A s.heap H locs → lv_has ls 6 [(0, .ref h), (3, .int x3), (4, .int x4)] → W p l e (headSpec wsX1_lay ({ frames := 2, cells := 0, slots := 0, locals := 43 })).room s m args below meth c H locs 0 0 (MQ below (va_Qi (fun (r : Int32) (u : Sg) => P r u) (at_M1 dC dI A h ad ca tc cl tr) A) args s 0 0 A) (F0 m 155 ls [])) (H : Heap) (locs : List Loc) (ls : Array Slot), wM_lay_j147 P tc cl tr B K155 x3 x4 x5 y1 g → va_P (dC, dI) vwCl (ML h ad ca tc cl tr g) H → va_D A (ML h ad ca tc cl tr g) → va_S A s.heap H locs → lv_has ls 6 [(0, .ref h), (3, .int x3), (4, .int x4), (5, .int x5)] → W p l e (headSpec wsX1_lay ({ frames := 2, cells := 0, slots := 0, locals := 43 })).room s m args below meth c H locs 0 0 (MQ below (va_Qi (fun (r : Int32) (u : Sg) => P r u) (at_M1 dC dI A h ad ca tc cl tr) A) args s 0 0 A) (F0 m 147 ls [.int y1, .ref (ad 1)]) := by
    intro B K155 x3 x4 x5 y1 g hB hK155 H locs ls hw hP hD hS hl
    unfold wM_lay_j147 at hw
    refine lv_iconst (v := (0 : Int32)) hx hb dX1_lay_147 (by decide) ?_
    exact jn_148 _ _ x3 x4 x5 y1 (0 : Int32) g hB hK155 H locs ls hw hP hD hS (lv_sub hl [0, 1, 2, 3] rfl)
  have jn_143 : ∀ (B : Int32 → Sg → Prop) (K155 : Sg → Prop) (x3 : Int32) (x4 : Int32) (x5 : Int32) (y1 : Int32) (g : Sg) (hB : ∀ (x5 : Int32) (g : Sg) (H : Heap) (locs : List Loc) (ls : Array Slot), B x5 g → va_P (dC, dI) vwCl (ML h ad ca tc cl tr g) H → va_D A (ML h ad ca tc cl tr g) → va_S A s.heap H locs → lv_has ls 6 [(0, .ref h), (3, .int x3), (4, .int x4), (5, .int x5)] → W p l e (headSpec wsX1_lay ({ frames := 2, cells := 0, slots := 0, locals := 43 })).room s m args below meth c H locs 0 0 (MQ below (va_Qi (fun (r : Int32) (u : Sg) => P r u) (at_M1 dC dI A h ad ca tc cl tr) A) args s 0 0 A) (F0 m 76 ls [])) (hK155 : ∀ (g : Sg) (H : Heap) (locs : List Loc) (ls : Array Slot), K155 g → va_P (dC, dI) vwCl (ML h ad ca tc cl tr g) H → va_D A (ML h ad ca tc cl tr g) → va_S A s.heap H locs → lv_has ls 6 [(0, .ref h), (3, .int x3), (4, .int x4)] → W p l e (headSpec wsX1_lay ({ frames := 2, cells := 0, slots := 0, locals := 43 })).room s m args below meth c H locs 0 0 (MQ below (va_Qi (fun (r : Int32) (u : Sg) => P r u) (at_M1 dC dI A h ad ca tc cl tr) A) args s 0 0 A) (F0 m 155 ls [])) (H : Heap) (locs : List Loc) (ls : Array Slot), wM_lay_j143 P tc cl tr B K155 x3 x4 x5 y1 g → va_P (dC, dI) vwCl (ML h ad ca tc cl tr g) H → va_D A (ML h ad ca tc cl tr g) → va_S A s.heap H locs → lv_has ls 6 [(0, .ref h), (3, .int x3), (4, .int x4), (5, .int x5)] → W p l e (headSpec wsX1_lay ({ frames := 2, cells := 0, slots := 0, locals := 43 })).room s m args below meth c H locs 0 0 (MQ below (va_Qi (fun (r : Int32) (u : Sg) => P r u) (at_M1 dC dI A h ad ca tc cl tr) A) args s 0 0 A) (F0 m 143 ls [.int y1, .ref (ad 1)]) := by
    intro B K155 x3 x4 x5 y1 g hB hK155 H locs ls hw hP hD hS hl
    unfold wM_lay_j143 at hw
    refine lv_iconst (v := (1 : Int32)) hx hb dX1_lay_143 (by decide) ?_
    refine lv_goto (tgt := 148) hx hb dX1_lay_144 (by decide) ?_
    exact jn_148 _ _ x3 x4 x5 y1 (1 : Int32) g hB hK155 H locs ls hw hP hD hS (lv_sub hl [0, 1, 2, 3] rfl)
  have lp_76 : ∀ (x3 : Int32) (x4 : Int32) (K155 : Sg → Prop) (hK155 : ∀ (g : Sg) (H : Heap) (locs : List Loc) (ls : Array Slot), K155 g → va_P (dC, dI) vwCl (ML h ad ca tc cl tr g) H → va_D A (ML h ad ca tc cl tr g) → va_S A s.heap H locs → lv_has ls 6 [(0, .ref h), (3, .int x3), (4, .int x4)] → W p l e (headSpec wsX1_lay ({ frames := 2, cells := 0, slots := 0, locals := 43 })).room s m args below meth c H locs 0 0 (MQ below (va_Qi (fun (r : Int32) (u : Sg) => P r u) (at_M1 dC dI A h ad ca tc cl tr) A) args s 0 0 A) (F0 m 155 ls [])), ∀ (n : Nat) (x5 : Int32) (g : Sg) (H : Heap) (locs : List Loc) (ls : Array Slot), Lp2 (wM_lay_b76 P tc cl tr x3 x4 K155) n x5 g → va_P (dC, dI) vwCl (ML h ad ca tc cl tr g) H → va_D A (ML h ad ca tc cl tr g) → va_S A s.heap H locs → lv_has ls 6 [(0, .ref h), (3, .int x3), (4, .int x4), (5, .int x5)] → W p l e (headSpec wsX1_lay ({ frames := 2, cells := 0, slots := 0, locals := 43 })).room s m args below meth c H locs 0 0 (MQ below (va_Qi (fun (r : Int32) (u : Sg) => P r u) (at_M1 dC dI A h ad ca tc cl tr) A) args s 0 0 A) (F0 m 76 ls []) := by
    intro x3 x4 K155 hK155
    intro n
    induction n with
    | zero => intro x5 g H locs ls hw; exact False.elim hw
    | succ n hB =>
      intro x5 g H locs ls hw hP hD hS hl
      replace hw : wM_lay_b76 P tc cl tr x3 x4 K155 (Lp2 (wM_lay_b76 P tc cl tr x3 x4 K155) n) x5 g := hw
      unfold wM_lay_b76 at hw
      refine lv_iload hx hb dX1_lay_76 (lv_at hl 3 rfl) ?_
      refine lv_aload_n hx hb dX1_lay_78 rfl (lv_at hl 0 rfl) ?_
      refine va_get (D := (dC, dI)) (ci := 1) (C := RX1) (T := TX1) (N := 9) hx hb hts inw hown hK hP 0 rfl rfl 0 (by decide) f7 (fun _ h9 => h9) rfl dX1_lay_79 ?_
      refine lv_icmp_ge (tgt := 155) hx hb dX1_lay_82 (by decide) (fun hc => ?_) (fun hc => ?_)
      · replace hw := hw.1 hc
        clear hc
        exact hK155 g H locs ls hw hP hD hS (lv_sub hl [0, 1, 2] rfl)
      · replace hw := hw.2 hc
        clear hc
        refine lv_aload_n hx hb dX1_lay_85 rfl (lv_at hl 0 rfl) ?_
        refine va_get (D := (dC, dI)) (ci := 1) (C := RX1) (T := TX1) (N := 9) hx hb hts inw hown hK hP 0 rfl rfl 1 (by decide) f13 (fun _ h9 => h9) rfl dX1_lay_86 ?_
        refine lv_bipush (v := (8 : Int32)) hx hb dX1_lay_89 (by decide) ?_
        refine lv_iload hx hb dX1_lay_91 (lv_at hl 2 rfl) ?_
        refine lv_imul hx hb dX1_lay_93 ?_
        refine lv_iload hx hb dX1_lay_94 (lv_at hl 3 rfl) ?_
        refine lv_iadd hx hb dX1_lay_96 ?_
        refine lv_aload_n hx hb dX1_lay_97 rfl (lv_at hl 0 rfl) ?_
        refine va_get (D := (dC, dI)) (ci := 1) (C := RX1) (T := TX1) (N := 9) hx hb hts inw hown hK hP 0 rfl rfl 1 (by decide) f13 (fun _ h9 => h9) rfl dX1_lay_98 ?_
        refine lv_bipush (v := (8 : Int32)) hx hb dX1_lay_101 (by decide) ?_
        refine lv_iload hx hb dX1_lay_103 (lv_at hl 2 rfl) ?_
        refine lv_imul hx hb dX1_lay_105 ?_
        refine lv_iload hx hb dX1_lay_106 (lv_at hl 3 rfl) ?_
        refine lv_iadd hx hb dX1_lay_108 ?_
        obtain ⟨hin, hw⟩ := hw
        refine va_zald hx hb hK hP 1 0 rfl rfl hin dX1_lay_109 ?_
        refine lv_if_ne (tgt := 143) hx hb dX1_lay_110 (by decide) (fun hc => ?_) (fun hc => ?_)
        · replace hw := hw.1 hc
          clear hc
          exact jn_143 _ _ x3 x4 x5 (((8 : Int32) * x4) + x5) g hB hK155 H locs ls hw hP hD hS (lv_sub hl [0, 1, 2, 3] rfl)
        · replace hw := hw.2 hc
          clear hc
          refine lv_aload_n hx hb dX1_lay_113 rfl (lv_at hl 0 rfl) ?_
          refine va_get (D := (dC, dI)) (ci := 1) (C := RX1) (T := TX1) (N := 9) hx hb hts inw hown hK hP 0 rfl rfl 1 (by decide) f13 (fun _ h9 => h9) rfl dX1_lay_114 ?_
          refine lv_bipush (v := (8 : Int32)) hx hb dX1_lay_117 (by decide) ?_
          refine lv_iload hx hb dX1_lay_119 (lv_at hl 2 rfl) ?_
          refine lv_imul hx hb dX1_lay_121 ?_
          refine lv_iload_n hx hb dX1_lay_122 rfl (lv_at hl 1 rfl) ?_
          refine lv_iadd hx hb dX1_lay_123 ?_
          obtain ⟨hin, hw⟩ := hw
          refine va_zald hx hb hK hP 1 0 rfl rfl hin dX1_lay_124 ?_
          refine lv_if_eq (tgt := 147) hx hb dX1_lay_125 (by decide) (fun hc => ?_) (fun hc => ?_)
          · replace hw := hw.1 hc
            clear hc
            exact jn_147 _ _ x3 x4 x5 (((8 : Int32) * x4) + x5) g hB hK155 H locs ls hw hP hD hS (lv_sub hl [0, 1, 2, 3] rfl)
          · replace hw := hw.2 hc
            clear hc
            refine lv_aload_n hx hb dX1_lay_128 rfl (lv_at hl 0 rfl) ?_
            refine va_get (D := (dC, dI)) (ci := 1) (C := RX1) (T := TX1) (N := 9) hx hb hts inw hown hK hP 0 rfl rfl 1 (by decide) f13 (fun _ h9 => h9) rfl dX1_lay_129 ?_
            refine lv_bipush (v := (8 : Int32)) hx hb dX1_lay_132 (by decide) ?_
            refine lv_iload_n hx hb dX1_lay_134 rfl (lv_at hl 1 rfl) ?_
            refine lv_imul hx hb dX1_lay_135 ?_
            refine lv_iload hx hb dX1_lay_136 (lv_at hl 3 rfl) ?_
            refine lv_iadd hx hb dX1_lay_138 ?_
            obtain ⟨hin, hw⟩ := hw
            refine va_zald hx hb hK hP 1 0 rfl rfl hin dX1_lay_139 ?_
            refine lv_if_eq (tgt := 147) hx hb dX1_lay_140 (by decide) (fun hc => ?_) (fun hc => ?_)
            · replace hw := hw.1 hc
              clear hc
              exact jn_147 _ _ x3 x4 x5 (((8 : Int32) * x4) + x5) g hB hK155 H locs ls hw hP hD hS (lv_sub hl [0, 1, 2, 3] rfl)
            · replace hw := hw.2 hc
              clear hc
              exact jn_143 _ _ x3 x4 x5 (((8 : Int32) * x4) + x5) g hB hK155 H locs ls hw hP hD hS (lv_sub hl [0, 1, 2, 3] rfl)
  have lp_64 : ∀ (x3 : Int32) (K161 : Sg → Prop) (hK161 : ∀ (g : Sg) (H : Heap) (locs : List Loc) (ls : Array Slot), K161 g → va_P (dC, dI) vwCl (ML h ad ca tc cl tr g) H → va_D A (ML h ad ca tc cl tr g) → va_S A s.heap H locs → lv_has ls 6 [(0, .ref h), (3, .int x3)] → W p l e (headSpec wsX1_lay ({ frames := 2, cells := 0, slots := 0, locals := 43 })).room s m args below meth c H locs 0 0 (MQ below (va_Qi (fun (r : Int32) (u : Sg) => P r u) (at_M1 dC dI A h ad ca tc cl tr) A) args s 0 0 A) (F0 m 161 ls [])), ∀ (n : Nat) (x4 : Int32) (g : Sg) (H : Heap) (locs : List Loc) (ls : Array Slot), Lp2 (wM_lay_b64 P tc cl tr x3 K161) n x4 g → va_P (dC, dI) vwCl (ML h ad ca tc cl tr g) H → va_D A (ML h ad ca tc cl tr g) → va_S A s.heap H locs → lv_has ls 6 [(0, .ref h), (3, .int x3), (4, .int x4)] → W p l e (headSpec wsX1_lay ({ frames := 2, cells := 0, slots := 0, locals := 43 })).room s m args below meth c H locs 0 0 (MQ below (va_Qi (fun (r : Int32) (u : Sg) => P r u) (at_M1 dC dI A h ad ca tc cl tr) A) args s 0 0 A) (F0 m 64 ls []) := by
    intro x3 K161 hK161
    intro n
    induction n with
    | zero => intro x4 g H locs ls hw; exact False.elim hw
    | succ n hB =>
      intro x4 g H locs ls hw hP hD hS hl
      replace hw : wM_lay_b64 P tc cl tr x3 K161 (Lp2 (wM_lay_b64 P tc cl tr x3 K161) n) x4 g := hw
      unfold wM_lay_b64 at hw
      refine lv_iload hx hb dX1_lay_64 (lv_at hl 2 rfl) ?_
      refine lv_aload_n hx hb dX1_lay_66 rfl (lv_at hl 0 rfl) ?_
      refine va_get (D := (dC, dI)) (ci := 1) (C := RX1) (T := TX1) (N := 9) hx hb hts inw hown hK hP 0 rfl rfl 0 (by decide) f7 (fun _ h9 => h9) rfl dX1_lay_67 ?_
      refine lv_icmp_ge (tgt := 161) hx hb dX1_lay_70 (by decide) (fun hc => ?_) (fun hc => ?_)
      · replace hw := hw.1 hc
        clear hc
        exact hK161 g H locs ls hw hP hD hS (lv_sub hl [0, 1] rfl)
      · replace hw := hw.2 hc
        clear hc
        refine lv_iconst (v := (0 : Int32)) hx hb dX1_lay_73 (by decide) ?_
        refine lv_istore (lv' := [(5, .int (0 : Int32)), (0, .ref h), (3, .int x3), (4, .int x4)]) hx hb dX1_lay_74 hl (by decide) rfl (fun ls hl => ?_)
        obtain ⟨n_3, hw⟩ := hw
        refine lp_76 x3 x4 _ ?_ n_3 (0 : Int32) g H locs ls hw hP hD hS (lv_sub hl [1, 2, 3, 0] rfl)
        · intro g_2 H locs ls hw hP hD hS hl
          try dsimp only at hw
          refine lv_iinc (v := (x4 + 1)) (lv' := [(4, .int ((x4 + 1))), (0, .ref h), (3, .int x3)]) hx hb dX1_lay_155 hl (k := 2) rfl rfl (by decide) rfl (fun ls hl => ?_)
          refine lv_goto (tgt := 64) hx hb dX1_lay_158 (by decide) ?_
          exact hB (x4 + 1) g_2 H locs ls hw hP hD hS (lv_sub hl [1, 2, 0] rfl)
  have lp_53 : ∀ (n : Nat) (x3 : Int32) (g : Sg) (H : Heap) (locs : List Loc) (ls : Array Slot), Lp2 (wM_lay_b53 P tc cl tr) n x3 g → va_P (dC, dI) vwCl (ML h ad ca tc cl tr g) H → va_D A (ML h ad ca tc cl tr g) → va_S A s.heap H locs → lv_has ls 6 [(0, .ref h), (3, .int x3)] → W p l e (headSpec wsX1_lay ({ frames := 2, cells := 0, slots := 0, locals := 43 })).room s m args below meth c H locs 0 0 (MQ below (va_Qi (fun (r : Int32) (u : Sg) => P r u) (at_M1 dC dI A h ad ca tc cl tr) A) args s 0 0 A) (F0 m 53 ls []) := by
    intro n
    induction n with
    | zero => intro x3 g H locs ls hw; exact False.elim hw
    | succ n hB =>
      intro x3 g H locs ls hw hP hD hS hl
      replace hw : wM_lay_b53 P tc cl tr (Lp2 (wM_lay_b53 P tc cl tr) n) x3 g := hw
      unfold wM_lay_b53 at hw
      refine lv_iload_n hx hb dX1_lay_53 rfl (lv_at hl 1 rfl) ?_
      refine lv_aload_n hx hb dX1_lay_54 rfl (lv_at hl 0 rfl) ?_
      refine va_get (D := (dC, dI)) (ci := 1) (C := RX1) (T := TX1) (N := 9) hx hb hts inw hown hK hP 0 rfl rfl 0 (by decide) f7 (fun _ h9 => h9) rfl dX1_lay_55 ?_
      refine lv_icmp_ge (tgt := 167) hx hb dX1_lay_58 (by decide) (fun hc => ?_) (fun hc => ?_)
      · replace hw := hw.1 hc
        clear hc
        refine lv_iconst (v := (1 : Int32)) hx hb dX1_lay_167 (by decide) ?_
        exact W.iret (v := (1 : Int32)) hx hb hr (fun t ht hW => ⟨⟨(1 : Int32), g, rfl, hw, by rw [ht]; exact hP, va_K.moved hW.alike hK, hD⟩, hS.F ht⟩) hS.2.2 dX1_lay_168
      · replace hw := hw.2 hc
        clear hc
        refine lv_iconst (v := (0 : Int32)) hx hb dX1_lay_61 (by decide) ?_
        refine lv_istore (lv' := [(4, .int (0 : Int32)), (0, .ref h), (3, .int x3)]) hx hb dX1_lay_62 hl (by decide) rfl (fun ls hl => ?_)
        obtain ⟨n_5, hw⟩ := hw
        refine lp_64 x3 _ ?_ n_5 (0 : Int32) g H locs ls hw hP hD hS (lv_sub hl [1, 2, 0] rfl)
        · intro g_4 H locs ls hw hP hD hS hl
          try dsimp only at hw
          refine lv_iinc (v := (x3 + 1)) (lv' := [(3, .int ((x3 + 1))), (0, .ref h)]) hx hb dX1_lay_161 hl (k := 1) rfl rfl (by decide) rfl (fun ls hl => ?_)
          refine lv_goto (tgt := 53) hx hb dX1_lay_164 (by decide) ?_
          exact hB (x3 + 1) g_4 H locs ls hw hP hD hS (lv_sub hl [1, 0] rfl)
  subst hargs
  unfold wM_lay at hw
  have hl := lv_entry ([.ref h, .int x1, .int x2]) (n := 6) (Nat.le_of_ble_eq_true rfl)
  rw [lg_entry_eq]
  generalize (lg_sl ([.ref h, .int x1, .int x2]) ++ List.replicate (6 - (lg_sl ([.ref h, .int x1, .int x2])).length) Slot.unset).toArray = ls at hl ⊢
  have hl : lv_has ls 6 [(0, .ref h), (1, .int x1), (2, .int x2)] := hl
  obtain ⟨H, hHe⟩ : ∃ z : Heap, z = s.heap := ⟨_, rfl⟩
  obtain ⟨locs, hLe⟩ : ∃ z : List Loc, z = [] := ⟨_, rfl⟩
  have hS : va_S A s.heap H locs := by rw [hHe, hLe]; exact hS
  have hP : va_P (dC, dI) vwCl (ML h ad ca tc cl tr g) H := by rw [hHe]; exact hP
  have hgo : W p l e (headSpec wsX1_lay ({ frames := 2, cells := 0, slots := 0, locals := 43 })).room s m ([.ref h, .int x1, .int x2] : List Value).toArray below meth c H locs 0 0 (MQ below (va_Qi (fun (r : Int32) (u : Sg) => P r u) (at_M1 dC dI A h ad ca tc cl tr) A) ([.ref h, .int x1, .int x2] : List Value).toArray s 0 0 A) (F0 m 0 ls []) := by
    clear hHe hLe
    refine lv_aload_n hx hb dX1_lay_0 rfl (lv_at hl 0 rfl) ?_
    refine lv_iload_n hx hb dX1_lay_1 rfl (lv_at hl 1 rfl) ?_
    refine vp_callSi (W.runV (As := [.int x1]) (rest := []) ⟨hx, hb, hml, hown, hts⟩ (cM_isThing l dC dI h ad ca tc cl tr g x1 _ hw) (cwV 1 hts gX1_lay_X1_isThing rfl rfl rfl (by decide +kernel) ⟨Nat.le_of_ble_eq_true rfl, Nat.le_of_ble_eq_true rfl⟩) ⟨fun a U g mk q => by obtain ⟨q0, qP, qK⟩ := q; exact ⟨q0, qP, va_K.moved (u := U) (U := U.calling g mk a) (Vm.Alike.refl U.vm) qK⟩, va_recv hK hP (ci := 1) (q0 := 0) rfl rfl, fun U hU hW => ⟨rfl, by rw [hU]; exact hP, va_K.moved hW.alike hK⟩⟩ rfl rfl hl.1 rfl (lv_room (Nat.le_of_ble_eq_true rfl)) dX1_lay_2 ⟨Nat.zero_le _, Nat.zero_le _⟩) (fun r_6 hw => ?_)
    try dsimp only at hw
    refine lv_if_eq (tgt := 21) hx hb dX1_lay_5 (by decide) (fun hc => ?_) (fun hc => ?_)
    · replace hw := hw.1 hc
      clear hc
      refine lv_iconst (v := (-1 : Int32)) hx hb dX1_lay_21 (by decide) ?_
      exact W.iret (v := (-1 : Int32)) hx hb hr (fun t ht hW => ⟨⟨(-1 : Int32), g, rfl, hw, by rw [ht]; exact hP, va_K.moved hW.alike hK, hD⟩, hS.F ht⟩) hS.2.2 dX1_lay_22
    · replace hw := hw.2 hc
      clear hc
      refine lv_aload_n hx hb dX1_lay_8 rfl (lv_at hl 0 rfl) ?_
      refine lv_iload_n hx hb dX1_lay_9 rfl (lv_at hl 2 rfl) ?_
      refine vp_callSi (W.runV (As := [.int x2]) (rest := []) ⟨hx, hb, hml, hown, hts⟩ (cM_isThing l dC dI h ad ca tc cl tr g x2 _ hw) (cwV 1 hts gX1_lay_X1_isThing rfl rfl rfl (by decide +kernel) ⟨Nat.le_of_ble_eq_true rfl, Nat.le_of_ble_eq_true rfl⟩) ⟨fun a U g mk q => by obtain ⟨q0, qP, qK⟩ := q; exact ⟨q0, qP, va_K.moved (u := U) (U := U.calling g mk a) (Vm.Alike.refl U.vm) qK⟩, va_recv hK hP (ci := 1) (q0 := 0) rfl rfl, fun U hU hW => ⟨rfl, by rw [hU]; exact hP, va_K.moved hW.alike hK⟩⟩ rfl rfl hl.1 rfl (lv_room (Nat.le_of_ble_eq_true rfl)) dX1_lay_10 ⟨Nat.zero_le _, Nat.zero_le _⟩) (fun r_7 hw => ?_)
      try dsimp only at hw
      refine lv_if_eq (tgt := 21) hx hb dX1_lay_13 (by decide) (fun hc => ?_) (fun hc => ?_)
      · replace hw := hw.1 hc
        clear hc
        refine lv_iconst (v := (-1 : Int32)) hx hb dX1_lay_21 (by decide) ?_
        exact W.iret (v := (-1 : Int32)) hx hb hr (fun t ht hW => ⟨⟨(-1 : Int32), g, rfl, hw, by rw [ht]; exact hP, va_K.moved hW.alike hK, hD⟩, hS.F ht⟩) hS.2.2 dX1_lay_22
      · replace hw := hw.2 hc
        clear hc
        refine lv_iload_n hx hb dX1_lay_16 rfl (lv_at hl 1 rfl) ?_
        refine lv_iload_n hx hb dX1_lay_17 rfl (lv_at hl 2 rfl) ?_
        refine lv_icmp_lt (tgt := 23) hx hb dX1_lay_18 (by decide) (fun hc => ?_) (fun hc => ?_)
        · replace hw := hw.1 hc
          clear hc
          refine lv_aload_n hx hb dX1_lay_23 rfl (lv_at hl 0 rfl) ?_
          refine va_get (D := (dC, dI)) (ci := 1) (C := RX1) (T := TX1) (N := 9) hx hb hts inw hown hK hP 0 rfl rfl 1 (by decide) f13 (fun _ h9 => h9) rfl dX1_lay_24 ?_
          refine lv_bipush (v := (8 : Int32)) hx hb dX1_lay_27 (by decide) ?_
          refine lv_iload_n hx hb dX1_lay_29 rfl (lv_at hl 1 rfl) ?_
          refine lv_imul hx hb dX1_lay_30 ?_
          refine lv_iload_n hx hb dX1_lay_31 rfl (lv_at hl 2 rfl) ?_
          refine lv_iadd hx hb dX1_lay_32 ?_
          obtain ⟨hin, hw⟩ := hw
          refine va_zald hx hb hK hP 1 0 rfl rfl hin dX1_lay_33 ?_
          refine lv_if_eq (tgt := 39) hx hb dX1_lay_34 (by decide) (fun hc => ?_) (fun hc => ?_)
          · replace hw := hw.1 hc
            clear hc
            refine lv_aload_n hx hb dX1_lay_39 rfl (lv_at hl 0 rfl) ?_
            refine va_get (D := (dC, dI)) (ci := 1) (C := RX1) (T := TX1) (N := 9) hx hb hts inw hown hK hP 0 rfl rfl 1 (by decide) f13 (fun _ h9 => h9) rfl dX1_lay_40 ?_
            refine lv_bipush (v := (8 : Int32)) hx hb dX1_lay_43 (by decide) ?_
            refine lv_iload_n hx hb dX1_lay_45 rfl (lv_at hl 1 rfl) ?_
            refine lv_imul hx hb dX1_lay_46 ?_
            refine lv_iload_n hx hb dX1_lay_47 rfl (lv_at hl 2 rfl) ?_
            refine lv_iadd hx hb dX1_lay_48 ?_
            refine lv_iconst (v := (1 : Int32)) hx hb dX1_lay_49 (by decide) ?_
            obtain ⟨hin, hw⟩ := hw
            refine va_zast hx hb hK hP hD hS 1 0 rfl rfl hin dX1_lay_50 (fun H locs hP hD hS => ?_)
            obtain ⟨g_8, hg⟩ : ∃ z : Sg, z = up2 g 1 ((((8 : Int32) * x1) + x2)).toNatClampNeg (vp_nar .boolean (1 : Int32)) := ⟨_, rfl⟩
            replace hw := hw g_8 hg
            have hP : va_P (dC, dI) vwCl (ML h ad ca tc cl tr g_8) H := by rw [hg]; exact hP
            have hD : va_D A (ML h ad ca tc cl tr g_8) := by rw [hg]; exact hD
            clear hg
            refine lv_iconst (v := (0 : Int32)) hx hb dX1_lay_51 (by decide) ?_
            refine lv_istore_n (lv' := [(3, .int (0 : Int32)), (0, .ref h), (1, .int x1), (2, .int x2)]) hx hb dX1_lay_52 rfl hl (by decide) rfl (fun ls hl => ?_)
            obtain ⟨n_9, hw⟩ := hw
            exact lp_53 n_9 (0 : Int32) g_8 H locs ls hw hP hD hS (lv_sub hl [1, 0] rfl)
          · replace hw := hw.2 hc
            clear hc
            refine lv_iconst (v := (0 : Int32)) hx hb dX1_lay_37 (by decide) ?_
            exact W.iret (v := (0 : Int32)) hx hb hr (fun t ht hW => ⟨⟨(0 : Int32), g, rfl, hw, by rw [ht]; exact hP, va_K.moved hW.alike hK, hD⟩, hS.F ht⟩) hS.2.2 dX1_lay_38
        · replace hw := hw.2 hc
          clear hc
          refine lv_iconst (v := (-1 : Int32)) hx hb dX1_lay_21 (by decide) ?_
          exact W.iret (v := (-1 : Int32)) hx hb hr (fun t ht hW => ⟨⟨(-1 : Int32), g, rfl, hw, by rw [ht]; exact hP, va_K.moved hW.alike hK, hD⟩, hS.F ht⟩) hS.2.2 dX1_lay_22
  rw [hHe, hLe] at hgo
  exact hgo
-- X1_below
set_option maxHeartbeats 4000000 in
set_option maxRecDepth 100000 in
theorem cM_below (l : Launch) (dC : Nat → ClassId) (dI : Nat → Nat → Nat) (h : Nat) (ad : Nat → Nat) (ca : Nat → ClassId) (tc cl : Int32) (tr : Int64) (g : Sg) (x1 : Int32) (x2 : Int32) (P : Int32 → Prop) (hw : wM_below P tc cl tr g x1 x2) : Met l yX1_below wsX1_below ({ frames := 2, cells := 0, slots := 0, locals := 43 }) (va_Pc [.ref h, .int x1, .int x2] (fun U => va_P (dC, dI) vwCl (ML h ad ca tc cl tr g) U.heap ∧ va_K (dC, dI) vwCl (MT ca) U)) (vp_Si P) 0 0 (fun _ => False) := by
  refine Met.ofW (cc := cX1_below) (maxL := 3) (ret := (some .int)) (by decide) rfl ?_
  intro p e s m args below meth c s₁ B0 hml hv
  obtain ⟨hargs, hP, hK⟩ := hv
  have hx := B0.exec
  have hb := B0.bytes
  have hr := B0.returns
  have hts := atoms_spec (ws := wsX1_below) B0.pre
  have hown : s.vm.findClass RX1 = some m.cls := findClass_of_methodNamed B0.named
  have hlocks := B0.notSynchronized
  have inw : ∀ w ∈ wsX10, w ∈ wsX1_below := fun w h => List.mem_cons_of_mem _ (List.mem_append_right _ h)
  have f13 : (Cond.fieldLink RX1 13 "FlipHeapsModel" "isBelow" "[Z").before args s = true := hts _ (by decide +kernel)
  have jn_16 : ∀ (ls : Array Slot), wM_below_j16 P tc cl tr g → lv_has ls 3 [(0, .ref h)] → W p l e (headSpec wsX1_below ({ frames := 2, cells := 0, slots := 0, locals := 43 })).room s m args below meth c s.heap [] 0 0 (MQ below (vp_Si P) args s 0 0 (fun _ => False)) (F0 m 16 ls []) := by
    intro ls hw hl
    unfold wM_below_j16 at hw
    refine lv_iconst (v := (-1 : Int32)) hx hb dX1_below_16 (by decide) ?_
    refine lv_goto (tgt := 39) hx hb dX1_below_17 (by decide) ?_
    exact W.iret (v := (-1 : Int32)) hx hb hr (fun t ht hW => ⟨_, rfl, hw, ht⟩) (fun q h => absurd h List.not_mem_nil) dX1_below_39
  subst hargs
  unfold wM_below at hw
  have hl := lv_entry ([.ref h, .int x1, .int x2]) (n := 3) (Nat.le_of_ble_eq_true rfl)
  rw [lg_entry_eq]
  generalize (lg_sl ([.ref h, .int x1, .int x2]) ++ List.replicate (3 - (lg_sl ([.ref h, .int x1, .int x2])).length) Slot.unset).toArray = ls at hl ⊢
  have hl : lv_has ls 3 [(0, .ref h), (1, .int x1), (2, .int x2)] := hl
  refine lv_aload_n hx hb dX1_below_0 rfl (lv_at hl 0 rfl) ?_
  refine lv_iload_n hx hb dX1_below_1 rfl (lv_at hl 1 rfl) ?_
  refine vp_callSi (W.runV (As := [.int x1]) (rest := []) ⟨hx, hb, hml, hown, hts⟩ (cM_isThing l dC dI h ad ca tc cl tr g x1 _ hw) (cwV 1 hts gX1_below_X1_isThing rfl rfl rfl (by decide +kernel) ⟨Nat.le_of_ble_eq_true rfl, Nat.le_of_ble_eq_true rfl⟩) ⟨fun a U g mk q => by obtain ⟨q0, qP, qK⟩ := q; exact ⟨q0, qP, va_K.moved (u := U) (U := U.calling g mk a) (Vm.Alike.refl U.vm) qK⟩, va_recv hK hP (ci := 1) (q0 := 0) rfl rfl, fun U hU hW => ⟨rfl, by rw [hU]; exact hP, va_K.moved hW.alike hK⟩⟩ rfl rfl hl.1 rfl (lv_room (Nat.le_of_ble_eq_true rfl)) dX1_below_2 ⟨Nat.zero_le _, Nat.zero_le _⟩) (fun r_1 hw => ?_)
  try dsimp only at hw
  refine lv_if_eq (tgt := 16) hx hb dX1_below_5 (by decide) (fun hc => ?_) (fun hc => ?_)
  · replace hw := hw.1 hc
    clear hc
    exact jn_16 ls hw (lv_sub hl [0] rfl)
  · replace hw := hw.2 hc
    clear hc
    refine lv_aload_n hx hb dX1_below_8 rfl (lv_at hl 0 rfl) ?_
    refine lv_iload_n hx hb dX1_below_9 rfl (lv_at hl 2 rfl) ?_
    refine vp_callSi (W.runV (As := [.int x2]) (rest := []) ⟨hx, hb, hml, hown, hts⟩ (cM_isThing l dC dI h ad ca tc cl tr g x2 _ hw) (cwV 1 hts gX1_below_X1_isThing rfl rfl rfl (by decide +kernel) ⟨Nat.le_of_ble_eq_true rfl, Nat.le_of_ble_eq_true rfl⟩) ⟨fun a U g mk q => by obtain ⟨q0, qP, qK⟩ := q; exact ⟨q0, qP, va_K.moved (u := U) (U := U.calling g mk a) (Vm.Alike.refl U.vm) qK⟩, va_recv hK hP (ci := 1) (q0 := 0) rfl rfl, fun U hU hW => ⟨rfl, by rw [hU]; exact hP, va_K.moved hW.alike hK⟩⟩ rfl rfl hl.1 rfl (lv_room (Nat.le_of_ble_eq_true rfl)) dX1_below_10 ⟨Nat.zero_le _, Nat.zero_le _⟩) (fun r_2 hw => ?_)
    try dsimp only at hw
    refine lv_if_ne (tgt := 20) hx hb dX1_below_13 (by decide) (fun hc => ?_) (fun hc => ?_)
    · replace hw := hw.1 hc
      clear hc
      refine lv_aload_n hx hb dX1_below_20 rfl (lv_at hl 0 rfl) ?_
      refine va_get (D := (dC, dI)) (ci := 1) (C := RX1) (T := TX1) (N := 9) hx hb hts inw hown hK hP 0 rfl rfl 1 (by decide) f13 (fun _ h9 => h9) rfl dX1_below_21 ?_
      refine lv_bipush (v := (8 : Int32)) hx hb dX1_below_24 (by decide) ?_
      refine lv_iload_n hx hb dX1_below_26 rfl (lv_at hl 1 rfl) ?_
      refine lv_imul hx hb dX1_below_27 ?_
      refine lv_iload_n hx hb dX1_below_28 rfl (lv_at hl 2 rfl) ?_
      refine lv_iadd hx hb dX1_below_29 ?_
      obtain ⟨hin, hw⟩ := hw
      refine va_zald hx hb hK hP 1 0 rfl rfl hin dX1_below_30 ?_
      refine lv_if_eq (tgt := 38) hx hb dX1_below_31 (by decide) (fun hc => ?_) (fun hc => ?_)
      · replace hw := hw.1 hc
        clear hc
        refine lv_iconst (v := (0 : Int32)) hx hb dX1_below_38 (by decide) ?_
        exact W.iret (v := (0 : Int32)) hx hb hr (fun t ht hW => ⟨_, rfl, hw, ht⟩) (fun q h => absurd h List.not_mem_nil) dX1_below_39
      · replace hw := hw.2 hc
        clear hc
        refine lv_iconst (v := (1 : Int32)) hx hb dX1_below_34 (by decide) ?_
        refine lv_goto (tgt := 39) hx hb dX1_below_35 (by decide) ?_
        exact W.iret (v := (1 : Int32)) hx hb hr (fun t ht hW => ⟨_, rfl, hw, ht⟩) (fun q h => absurd h List.not_mem_nil) dX1_below_39
    · replace hw := hw.2 hc
      clear hc
      exact jn_16 ls hw (lv_sub hl [0] rfl)
-- X1_weight
set_option maxHeartbeats 4000000 in
set_option maxRecDepth 100000 in
theorem cM_weight (l : Launch) (dC : Nat → ClassId) (dI : Nat → Nat → Nat) (h : Nat) (ad : Nat → Nat) (ca : Nat → ClassId) (sz : Nat) (tc cl : Int32) (tr : Int64) (g : Sg) (x1 : Int32) (x2 : Int32) (P : Int32 → Sg → Prop) (hw : wM_weight P tc cl tr g x1 x2) : Met l yX1_weight wsX1_weight ({ frames := 2, cells := 0, slots := 0, locals := 43 }) (va_Pc [.ref h, .int x1, .int x2] (fun U => U.heap.size = sz ∧ va_P (dC, dI) vwCl (ML h ad ca tc cl tr g) U.heap ∧ va_K (dC, dI) vwCl (MT ca) U ∧ va_D (fun _ => True) (ML h ad ca tc cl tr g))) (va_Qi (fun (r : Int32) (u : Sg) => P r u) (at_M1 dC dI (va_A (ML h ad ca tc cl tr g) sz) h ad ca tc cl tr) (va_A (ML h ad ca tc cl tr g) sz)) 0 0 (va_A (ML h ad ca tc cl tr g) sz) := by
  refine Met.ofW (cc := cX1_weight) (maxL := 4) (ret := (some .int)) (by decide) rfl ?_
  intro p e s m args below meth c s₁ B0 hml hv
  obtain ⟨hargs, hsz, hP, hK, hD0⟩ := hv
  have hx := B0.exec
  have hb := B0.bytes
  have hr := B0.returns
  have hts := atoms_spec (ws := wsX1_weight) B0.pre
  have hown : s.vm.findClass RX1 = some m.cls := findClass_of_methodNamed B0.named
  have hlocks := B0.notSynchronized
  have inw : ∀ w ∈ wsX10, w ∈ wsX1_weight := fun w h => List.mem_cons_of_mem _ (List.mem_append_right _ h)
  have f17 : (Cond.fieldLink RX1 17 "FlipHeapsModel" "weight" "[I").before args s = true := hts _ (by decide +kernel)
  have k44 : (Cond.constant RX1 44 (-1000000)).before args s = true := hts _ (by decide +kernel)
  subst hsz
  have hD := hD0.self (sz := s.heap.size)
  generalize hAe : va_A (ML h ad ca tc cl tr g) s.heap.size = A at hD ⊢
  have hA : ∀ q : Nat, s.heap.size ≤ q → A q := fun q h => by rw [← hAe]; exact Or.inr h
  clear hAe hD0
  have hS : va_S A s.heap s.heap [] := va_S.rf
  subst hargs
  unfold wM_weight at hw
  have hl := lv_entry ([.ref h, .int x1, .int x2]) (n := 4) (Nat.le_of_ble_eq_true rfl)
  rw [lg_entry_eq]
  generalize (lg_sl ([.ref h, .int x1, .int x2]) ++ List.replicate (4 - (lg_sl ([.ref h, .int x1, .int x2])).length) Slot.unset).toArray = ls at hl ⊢
  have hl : lv_has ls 4 [(0, .ref h), (1, .int x1), (2, .int x2)] := hl
  obtain ⟨H, hHe⟩ : ∃ z : Heap, z = s.heap := ⟨_, rfl⟩
  obtain ⟨locs, hLe⟩ : ∃ z : List Loc, z = [] := ⟨_, rfl⟩
  have hS : va_S A s.heap H locs := by rw [hHe, hLe]; exact hS
  have hP : va_P (dC, dI) vwCl (ML h ad ca tc cl tr g) H := by rw [hHe]; exact hP
  have hgo : W p l e (headSpec wsX1_weight ({ frames := 2, cells := 0, slots := 0, locals := 43 })).room s m ([.ref h, .int x1, .int x2] : List Value).toArray below meth c H locs 0 0 (MQ below (va_Qi (fun (r : Int32) (u : Sg) => P r u) (at_M1 dC dI A h ad ca tc cl tr) A) ([.ref h, .int x1, .int x2] : List Value).toArray s 0 0 A) (F0 m 0 ls []) := by
    clear hHe hLe
    refine lv_aload_n hx hb dX1_weight_0 rfl (lv_at hl 0 rfl) ?_
    refine lv_iload_n hx hb dX1_weight_1 rfl (lv_at hl 1 rfl) ?_
    refine vp_callSi (W.runV (As := [.int x1]) (rest := []) ⟨hx, hb, hml, hown, hts⟩ (cM_isThing l dC dI h ad ca tc cl tr g x1 _ hw) (cwV 1 hts gX1_weight_X1_isThing rfl rfl rfl (by decide +kernel) ⟨Nat.le_of_ble_eq_true rfl, Nat.le_of_ble_eq_true rfl⟩) ⟨fun a U g mk q => by obtain ⟨q0, qP, qK⟩ := q; exact ⟨q0, qP, va_K.moved (u := U) (U := U.calling g mk a) (Vm.Alike.refl U.vm) qK⟩, va_recv hK hP (ci := 1) (q0 := 0) rfl rfl, fun U hU hW => ⟨rfl, by rw [hU]; exact hP, va_K.moved hW.alike hK⟩⟩ rfl rfl hl.1 rfl (lv_room (Nat.le_of_ble_eq_true rfl)) dX1_weight_2 ⟨Nat.zero_le _, Nat.zero_le _⟩) (fun r_1 hw => ?_)
    try dsimp only at hw
    refine lv_if_eq (tgt := 19) hx hb dX1_weight_5 (by decide) (fun hc => ?_) (fun hc => ?_)
    · replace hw := hw.1 hc
      clear hc
      refine lv_ldc (v := (-1000000 : Int32)) hx hb hown k44 dX1_weight_19 ?_
      exact W.iret (v := (-1000000 : Int32)) hx hb hr (fun t ht hW => ⟨⟨(-1000000 : Int32), g, rfl, hw, by rw [ht]; exact hP, va_K.moved hW.alike hK, hD⟩, hS.F ht⟩) hS.2.2 dX1_weight_21
    · replace hw := hw.2 hc
      clear hc
      refine lv_iload_n hx hb dX1_weight_8 rfl (lv_at hl 2 rfl) ?_
      refine lv_bipush (v := (-9 : Int32)) hx hb dX1_weight_9 (by decide) ?_
      refine lv_bipush (v := (9 : Int32)) hx hb dX1_weight_11 (by decide) ?_
      refine vp_callSi (W.runS (As := [.int x2, .int (-9 : Int32), .int (9 : Int32)]) (rest := []) ⟨hx, hb, hml, hown, hts⟩ (cM_in l x2 (-9 : Int32) (9 : Int32) _ hw) (va_cwS 3 hts gX1_weight_X1_in rfl rfl rfl (by decide +kernel) ⟨Nat.le_of_ble_eq_true rfl, Nat.le_of_ble_eq_true rfl⟩) ⟨fun a U g mk q => q, fun U hU hW => ⟨rfl, trivial⟩⟩ rfl rfl hl.1 rfl (lv_room (Nat.le_of_ble_eq_true rfl)) dX1_weight_13 ⟨Nat.zero_le _, Nat.zero_le _⟩) (fun r_2 hw => ?_)
      try dsimp only at hw
      refine lv_if_ne (tgt := 22) hx hb dX1_weight_16 (by decide) (fun hc => ?_) (fun hc => ?_)
      · replace hw := hw.1 hc
        clear hc
        refine lv_aload_n hx hb dX1_weight_22 rfl (lv_at hl 0 rfl) ?_
        refine va_get (D := (dC, dI)) (ci := 1) (C := RX1) (T := TX1) (N := 9) hx hb hts inw hown hK hP 0 rfl rfl 2 (by decide) f17 (fun _ h9 => h9) rfl dX1_weight_23 ?_
        refine lv_iload_n hx hb dX1_weight_26 rfl (lv_at hl 1 rfl) ?_
        obtain ⟨hin, hw⟩ := hw
        refine va_iald hx hb hK hP 2 1 rfl rfl hin dX1_weight_27 ?_
        refine lv_topi (fun x3_3 hv => ?_)
        replace hw := hw x3_3 hv
        clear hv
        refine lv_istore_n (lv' := [(3, .int x3_3), (0, .ref h), (1, .int x1), (2, .int x2)]) hx hb dX1_weight_28 rfl hl (by decide) rfl (fun ls hl => ?_)
        refine lv_aload_n hx hb dX1_weight_29 rfl (lv_at hl 1 rfl) ?_
        refine va_get (D := (dC, dI)) (ci := 1) (C := RX1) (T := TX1) (N := 9) hx hb hts inw hown hK hP 0 rfl rfl 2 (by decide) f17 (fun _ h9 => h9) rfl dX1_weight_30 ?_
        refine lv_iload_n hx hb dX1_weight_33 rfl (lv_at hl 2 rfl) ?_
        refine lv_iload_n hx hb dX1_weight_34 rfl (lv_at hl 3 rfl) ?_
        obtain ⟨hin, hw⟩ := hw
        refine va_iast hx hb hK hP hD hS 2 1 rfl rfl hin dX1_weight_35 (fun H locs hP hD hS => ?_)
        obtain ⟨g_4, hg⟩ : ∃ z : Sg, z = up2 g 2 (x1).toNatClampNeg x2 := ⟨_, rfl⟩
        replace hw := hw g_4 hg
        have hP : va_P (dC, dI) vwCl (ML h ad ca tc cl tr g_4) H := by rw [hg]; exact hP
        have hD : va_D A (ML h ad ca tc cl tr g_4) := by rw [hg]; exact hD
        clear hg
        refine lv_iload_n hx hb dX1_weight_36 rfl (lv_at hl 0 rfl) ?_
        exact W.iret (v := x3_3) hx hb hr (fun t ht hW => ⟨⟨x3_3, g_4, rfl, hw, by rw [ht]; exact hP, va_K.moved hW.alike hK, hD⟩, hS.F ht⟩) hS.2.2 dX1_weight_37
      · replace hw := hw.2 hc
        clear hc
        refine lv_ldc (v := (-1000000 : Int32)) hx hb hown k44 dX1_weight_19 ?_
        exact W.iret (v := (-1000000 : Int32)) hx hb hr (fun t ht hW => ⟨⟨(-1000000 : Int32), g, rfl, hw, by rw [ht]; exact hP, va_K.moved hW.alike hK, hD⟩, hS.F ht⟩) hS.2.2 dX1_weight_21
  rw [hHe, hLe] at hgo
  exact hgo
-- X1_say
set_option maxHeartbeats 4000000 in
set_option maxRecDepth 100000 in
theorem cM_say (l : Launch) (dC : Nat → ClassId) (dI : Nat → Nat → Nat) (h : Nat) (ad : Nat → Nat) (ca : Nat → ClassId) (sz : Nat) (tc cl : Int32) (tr : Int64) (g : Sg) (x1 : Int32) (P : Int32 → Int32 → Int32 → Int64 → Sg → Prop) (hw : wM_say P tc cl tr g x1) : Met l yX1_say wsX1_say ({ frames := 2, cells := 0, slots := 0, locals := 43 }) (va_Pc [.ref h, .int x1] (fun U => U.heap.size = sz ∧ va_P (dC, dI) vwCl (ML h ad ca tc cl tr g) U.heap ∧ va_K (dC, dI) vwCl (MT ca) U ∧ va_D (fun _ => True) (ML h ad ca tc cl tr g))) (va_Qi (fun (r : Int32) (u : Int32 × Int32 × Int64 × Sg) => P r u.1 u.2.1 u.2.2.1 u.2.2.2) (at_M2 dC dI (va_A (ML h ad ca tc cl tr g) sz) h ad ca) (va_A (ML h ad ca tc cl tr g) sz)) 0 0 (va_A (ML h ad ca tc cl tr g) sz) := by
  refine Met.ofW (cc := cX1_say) (maxL := 2) (ret := (some .int)) (by decide) rfl ?_
  intro p e s m args below meth c s₁ B0 hml hv
  obtain ⟨hargs, hsz, hP, hK, hD0⟩ := hv
  have hx := B0.exec
  have hb := B0.bytes
  have hr := B0.returns
  have hts := atoms_spec (ws := wsX1_say) B0.pre
  have hown : s.vm.findClass RX1 = some m.cls := findClass_of_methodNamed B0.named
  have hlocks := B0.notSynchronized
  have inw : ∀ w ∈ wsX10, w ∈ wsX1_say := fun w h => List.mem_cons_of_mem _ (List.mem_append_right _ h)
  have f21 : (Cond.fieldLink RX1 21 "FlipHeapsModel" "word" "[I").before args s = true := hts _ (by decide +kernel)
  have f33 : (Cond.fieldLink RX1 33 "FlipHeapsModel" "said" "I").before args s = true := hts _ (by decide +kernel)
  subst hsz
  have hD := hD0.self (sz := s.heap.size)
  generalize hAe : va_A (ML h ad ca tc cl tr g) s.heap.size = A at hD ⊢
  have hA : ∀ q : Nat, s.heap.size ≤ q → A q := fun q h => by rw [← hAe]; exact Or.inr h
  clear hAe hD0
  have hS : va_S A s.heap s.heap [] := va_S.rf
  subst hargs
  unfold wM_say at hw
  have hl := lv_entry ([.ref h, .int x1]) (n := 2) (Nat.le_of_ble_eq_true rfl)
  rw [lg_entry_eq]
  generalize (lg_sl ([.ref h, .int x1]) ++ List.replicate (2 - (lg_sl ([.ref h, .int x1])).length) Slot.unset).toArray = ls at hl ⊢
  have hl : lv_has ls 2 [(0, .ref h), (1, .int x1)] := hl
  obtain ⟨H, hHe⟩ : ∃ z : Heap, z = s.heap := ⟨_, rfl⟩
  obtain ⟨locs, hLe⟩ : ∃ z : List Loc, z = [] := ⟨_, rfl⟩
  have hS : va_S A s.heap H locs := by rw [hHe, hLe]; exact hS
  have hP : va_P (dC, dI) vwCl (ML h ad ca tc cl tr g) H := by rw [hHe]; exact hP
  have hgo : W p l e (headSpec wsX1_say ({ frames := 2, cells := 0, slots := 0, locals := 43 })).room s m ([.ref h, .int x1] : List Value).toArray below meth c H locs 0 0 (MQ below (va_Qi (fun (r : Int32) (u : Int32 × Int32 × Int64 × Sg) => P r u.1 u.2.1 u.2.2.1 u.2.2.2) (at_M2 dC dI A h ad ca) A) ([.ref h, .int x1] : List Value).toArray s 0 0 A) (F0 m 0 ls []) := by
    clear hHe hLe
    refine lv_aload_n hx hb dX1_say_0 rfl (lv_at hl 0 rfl) ?_
    refine lv_iload_n hx hb dX1_say_1 rfl (lv_at hl 1 rfl) ?_
    refine vp_callSi (W.runV (As := [.int x1]) (rest := []) ⟨hx, hb, hml, hown, hts⟩ (cM_isThing l dC dI h ad ca tc cl tr g x1 _ hw) (cwV 1 hts gX1_say_X1_isThing rfl rfl rfl (by decide +kernel) ⟨Nat.le_of_ble_eq_true rfl, Nat.le_of_ble_eq_true rfl⟩) ⟨fun a U g mk q => by obtain ⟨q0, qP, qK⟩ := q; exact ⟨q0, qP, va_K.moved (u := U) (U := U.calling g mk a) (Vm.Alike.refl U.vm) qK⟩, va_recv hK hP (ci := 1) (q0 := 0) rfl rfl, fun U hU hW => ⟨rfl, by rw [hU]; exact hP, va_K.moved hW.alike hK⟩⟩ rfl rfl hl.1 rfl (lv_room (Nat.le_of_ble_eq_true rfl)) dX1_say_2 ⟨Nat.zero_le _, Nat.zero_le _⟩) (fun r_1 hw => ?_)
    try dsimp only at hw
    refine lv_if_ne (tgt := 10) hx hb dX1_say_5 (by decide) (fun hc => ?_) (fun hc => ?_)
    · replace hw := hw.1 hc
      clear hc
      refine lv_aload_n hx hb dX1_say_10 rfl (lv_at hl 0 rfl) ?_
      refine va_get (D := (dC, dI)) (ci := 1) (C := RX1) (T := TX1) (N := 9) hx hb hts inw hown hK hP 0 rfl rfl 4 (by decide) f33 (fun _ h9 => h9) rfl dX1_say_11 ?_
      refine lv_bipush (v := (16 : Int32)) hx hb dX1_say_14 (by decide) ?_
      refine lv_icmp_ne (tgt := 22) hx hb dX1_say_16 (by decide) (fun hc => ?_) (fun hc => ?_)
      · replace hw := hw.1 hc
        clear hc
        refine lv_aload_n hx hb dX1_say_22 rfl (lv_at hl 0 rfl) ?_
        refine va_get (D := (dC, dI)) (ci := 1) (C := RX1) (T := TX1) (N := 9) hx hb hts inw hown hK hP 0 rfl rfl 3 (by decide) f21 (fun _ h9 => h9) rfl dX1_say_23 ?_
        refine lv_aload_n hx hb dX1_say_26 rfl (lv_at hl 0 rfl) ?_
        refine va_get (D := (dC, dI)) (ci := 1) (C := RX1) (T := TX1) (N := 9) hx hb hts inw hown hK hP 0 rfl rfl 4 (by decide) f33 (fun _ h9 => h9) rfl dX1_say_27 ?_
        refine lv_iload_n hx hb dX1_say_30 rfl (lv_at hl 1 rfl) ?_
        obtain ⟨hin, hw⟩ := hw
        refine va_iast hx hb hK hP hD hS 3 2 rfl rfl hin dX1_say_31 (fun H locs hP hD hS => ?_)
        obtain ⟨g_2, hg⟩ : ∃ z : Sg, z = up2 g 3 (cl).toNatClampNeg x1 := ⟨_, rfl⟩
        replace hw := hw g_2 hg
        have hP : va_P (dC, dI) vwCl (ML h ad ca tc cl tr g_2) H := by rw [hg]; exact hP
        have hD : va_D A (ML h ad ca tc cl tr g_2) := by rw [hg]; exact hD
        clear hg
        refine lv_aload_n hx hb dX1_say_32 rfl (lv_at hl 0 rfl) ?_
        refine lv_dup hx hb dX1_say_33 rfl ?_
        refine va_get (D := (dC, dI)) (ci := 1) (C := RX1) (T := TX1) (N := 9) hx hb hts inw hown hK hP 0 rfl rfl 4 (by decide) f33 (fun _ h9 => h9) rfl dX1_say_34 ?_
        refine lv_iconst (v := (1 : Int32)) hx hb dX1_say_37 (by decide) ?_
        refine lv_iadd hx hb dX1_say_38 ?_
        refine lv_topi (fun cl_3 hv => ?_)
        replace hw := hw cl_3 hv
        clear hv
        refine va_put (D := (dC, dI)) (ci := 1) (v := .int cl_3) (ty := .int) (C := RX1) (T := TX1) (N := 9) hx hb hts inw tyX1 tyX1_ok nmX1 hown hK hP hD hS 0 rfl rfl 4 (by decide) f33 (fun _ h9 => h9) rfl (by decide +kernel) rfl rfl (Nat.le_of_ble_eq_true rfl) dX1_say_39 (fun H locs hP hD hS => ?_)
        have hP : va_P (dC, dI) vwCl (ML h ad ca tc cl_3 tr g_2) H := hP
        have hD : va_D A (ML h ad ca tc cl_3 tr g_2) := hD
        refine lv_aload_n hx hb dX1_say_42 rfl (lv_at hl 0 rfl) ?_
        refine va_get (D := (dC, dI)) (ci := 1) (C := RX1) (T := TX1) (N := 9) hx hb hts inw hown hK hP 0 rfl rfl 4 (by decide) f33 (fun _ h9 => h9) rfl dX1_say_43 ?_
        exact W.iret (v := cl_3) hx hb hr (fun t ht hW => ⟨⟨cl_3, (tc, cl_3, tr, g_2), rfl, hw, by rw [ht]; exact hP, va_K.moved hW.alike hK, hD⟩, hS.F ht⟩) hS.2.2 dX1_say_46
      · replace hw := hw.2 hc
        clear hc
        refine lv_bipush (v := (-3 : Int32)) hx hb dX1_say_19 (by decide) ?_
        exact W.iret (v := (-3 : Int32)) hx hb hr (fun t ht hW => ⟨⟨(-3 : Int32), (tc, cl, tr, g), rfl, hw, by rw [ht]; exact hP, va_K.moved hW.alike hK, hD⟩, hS.F ht⟩) hS.2.2 dX1_say_21
    · replace hw := hw.2 hc
      clear hc
      refine lv_iconst (v := (-1 : Int32)) hx hb dX1_say_8 (by decide) ?_
      exact W.iret (v := (-1 : Int32)) hx hb hr (fun t ht hW => ⟨⟨(-1 : Int32), (tc, cl, tr, g), rfl, hw, by rw [ht]; exact hP, va_K.moved hW.alike hK, hD⟩, hS.F ht⟩) hS.2.2 dX1_say_9
  rw [hHe, hLe] at hgo
  exact hgo
-- X1_hush
set_option maxHeartbeats 4000000 in
set_option maxRecDepth 100000 in
theorem cM_hush (l : Launch) (dC : Nat → ClassId) (dI : Nat → Nat → Nat) (h : Nat) (ad : Nat → Nat) (ca : Nat → ClassId) (sz : Nat) (tc cl : Int32) (tr : Int64) (g : Sg) (P : Int32 → Int32 → Int32 → Int64 → Sg → Prop) (hw : wM_hush P tc cl tr g) : Met l yX1_hush wsX1_hush ({ frames := 0, cells := 0, slots := 0, locals := 0 }) (va_Pc [.ref h] (fun U => U.heap.size = sz ∧ va_P (dC, dI) vwCl (ML h ad ca tc cl tr g) U.heap ∧ va_K (dC, dI) vwCl (MT ca) U ∧ va_D (fun _ => True) (ML h ad ca tc cl tr g))) (va_Qi (fun (r : Int32) (u : Int32 × Int32 × Int64 × Sg) => P r u.1 u.2.1 u.2.2.1 u.2.2.2) (at_M2 dC dI (va_A (ML h ad ca tc cl tr g) sz) h ad ca) (va_A (ML h ad ca tc cl tr g) sz)) 0 0 (va_A (ML h ad ca tc cl tr g) sz) := by
  refine Met.ofW (cc := cX1_hush) (maxL := 2) (ret := (some .int)) (by decide) rfl ?_
  intro p e s m args below meth c s₁ B0 hml hv
  obtain ⟨hargs, hsz, hP, hK, hD0⟩ := hv
  have hx := B0.exec
  have hb := B0.bytes
  have hr := B0.returns
  have hts := atoms_spec (ws := wsX1_hush) B0.pre
  have hown : s.vm.findClass RX1 = some m.cls := findClass_of_methodNamed B0.named
  have hlocks := B0.notSynchronized
  have inw : ∀ w ∈ wsX10, w ∈ wsX1_hush := fun w h => List.mem_cons_of_mem _ (List.mem_append_right _ h)
  have f33 : (Cond.fieldLink RX1 33 "FlipHeapsModel" "said" "I").before args s = true := hts _ (by decide +kernel)
  subst hsz
  have hD := hD0.self (sz := s.heap.size)
  generalize hAe : va_A (ML h ad ca tc cl tr g) s.heap.size = A at hD ⊢
  have hA : ∀ q : Nat, s.heap.size ≤ q → A q := fun q h => by rw [← hAe]; exact Or.inr h
  clear hAe hD0
  have hS : va_S A s.heap s.heap [] := va_S.rf
  subst hargs
  unfold wM_hush at hw
  have hl := lv_entry ([.ref h]) (n := 2) (Nat.le_of_ble_eq_true rfl)
  rw [lg_entry_eq]
  generalize (lg_sl ([.ref h]) ++ List.replicate (2 - (lg_sl ([.ref h])).length) Slot.unset).toArray = ls at hl ⊢
  have hl : lv_has ls 2 [(0, .ref h)] := hl
  obtain ⟨H, hHe⟩ : ∃ z : Heap, z = s.heap := ⟨_, rfl⟩
  obtain ⟨locs, hLe⟩ : ∃ z : List Loc, z = [] := ⟨_, rfl⟩
  have hS : va_S A s.heap H locs := by rw [hHe, hLe]; exact hS
  have hP : va_P (dC, dI) vwCl (ML h ad ca tc cl tr g) H := by rw [hHe]; exact hP
  have hgo : W p l e (headSpec wsX1_hush ({ frames := 0, cells := 0, slots := 0, locals := 0 })).room s m ([.ref h] : List Value).toArray below meth c H locs 0 0 (MQ below (va_Qi (fun (r : Int32) (u : Int32 × Int32 × Int64 × Sg) => P r u.1 u.2.1 u.2.2.1 u.2.2.2) (at_M2 dC dI A h ad ca) A) ([.ref h] : List Value).toArray s 0 0 A) (F0 m 0 ls []) := by
    clear hHe hLe
    refine lv_aload_n hx hb dX1_hush_0 rfl (lv_at hl 0 rfl) ?_
    refine va_get (D := (dC, dI)) (ci := 1) (C := RX1) (T := TX1) (N := 9) hx hb hts inw hown hK hP 0 rfl rfl 4 (by decide) f33 (fun _ h9 => h9) rfl dX1_hush_1 ?_
    refine lv_istore_n (lv' := [(1, .int cl), (0, .ref h)]) hx hb dX1_hush_4 rfl hl (by decide) rfl (fun ls hl => ?_)
    refine lv_aload_n hx hb dX1_hush_5 rfl (lv_at hl 1 rfl) ?_
    refine lv_iconst (v := (0 : Int32)) hx hb dX1_hush_6 (by decide) ?_
    refine va_put (D := (dC, dI)) (ci := 1) (v := .int (0 : Int32)) (ty := .int) (C := RX1) (T := TX1) (N := 9) hx hb hts inw tyX1 tyX1_ok nmX1 hown hK hP hD hS 0 rfl rfl 4 (by decide) f33 (fun _ h9 => h9) rfl (by decide +kernel) rfl rfl (Nat.le_of_ble_eq_true rfl) dX1_hush_7 (fun H locs hP hD hS => ?_)
    have hP : va_P (dC, dI) vwCl (ML h ad ca tc (0 : Int32) tr g) H := hP
    have hD : va_D A (ML h ad ca tc (0 : Int32) tr g) := hD
    refine lv_iload_n hx hb dX1_hush_10 rfl (lv_at hl 0 rfl) ?_
    exact W.iret (v := cl) hx hb hr (fun t ht hW => ⟨⟨cl, (tc, (0 : Int32), tr, g), rfl, hw, by rw [ht]; exact hP, va_K.moved hW.alike hK, hD⟩, hS.F ht⟩) hS.2.2 dX1_hush_11
  rw [hHe, hLe] at hgo
  exact hgo
-- X1_has
set_option maxHeartbeats 4000000 in
set_option maxRecDepth 100000 in
theorem cM_has (l : Launch) (x0 : Int32) (x1 : Int32) (P : Int32 → Prop) (hw : wM_has P x0 x1) : Met l yX1_has wsX1_has ({ frames := 0, cells := 0, slots := 0, locals := 0 }) (va_Pc [.int x0, .int x1] (fun _ => True)) (vp_Si P) 0 0 (fun _ => False) := by
  refine Met.ofW (cc := cX1_has) (maxL := 2) (ret := (some .boolean)) (by decide) rfl ?_
  intro p e s m args below meth c s₁ B0 hml hv
  obtain ⟨hargs, -⟩ := hv
  have hx := B0.exec
  have hb := B0.bytes
  have hr := B0.returns
  have hts := atoms_spec (ws := wsX1_has) B0.pre
  have hown : s.vm.findClass RX1 = some m.cls := findClass_of_methodNamed B0.named
  have hlocks := B0.notSynchronized
  subst hargs
  unfold wM_has at hw
  have hl := lv_entry ([.int x0, .int x1]) (n := 2) (Nat.le_of_ble_eq_true rfl)
  rw [lg_entry_eq]
  generalize (lg_sl ([.int x0, .int x1]) ++ List.replicate (2 - (lg_sl ([.int x0, .int x1])).length) Slot.unset).toArray = ls at hl ⊢
  have hl : lv_has ls 2 [(0, .int x0), (1, .int x1)] := hl
  refine lv_iload_n hx hb dX1_has_0 rfl (lv_at hl 0 rfl) ?_
  refine lv_iload_n hx hb dX1_has_1 rfl (lv_at hl 1 rfl) ?_
  refine lv_ishr hx hb dX1_has_2 ?_
  refine lv_iconst (v := (1 : Int32)) hx hb dX1_has_3 (by decide) ?_
  refine lv_iand hx hb dX1_has_4 ?_
  refine lv_iconst (v := (1 : Int32)) hx hb dX1_has_5 (by decide) ?_
  refine lv_icmp_ne (tgt := 13) hx hb dX1_has_6 (by decide) (fun hc => ?_) (fun hc => ?_)
  · replace hw := hw.1 hc
    clear hc
    refine lv_iconst (v := (0 : Int32)) hx hb dX1_has_13 (by decide) ?_
    exact W.zret (v := (0 : Int32)) hx hb hr rfl (fun t ht hW => ⟨_, rfl, hw, ht⟩) (fun q h => absurd h List.not_mem_nil) dX1_has_14
  · replace hw := hw.2 hc
    clear hc
    refine lv_iconst (v := (1 : Int32)) hx hb dX1_has_9 (by decide) ?_
    refine lv_goto (tgt := 14) hx hb dX1_has_10 (by decide) ?_
    exact W.zret (v := (1 : Int32)) hx hb hr rfl (fun t ht hW => ⟨_, rfl, hw, ht⟩) (fun q h => absurd h List.not_mem_nil) dX1_has_14
-- X1_isHeap
set_option maxHeartbeats 4000000 in
set_option maxRecDepth 100000 in
theorem cM_isHeap (l : Launch) (dC : Nat → ClassId) (dI : Nat → Nat → Nat) (h : Nat) (ad : Nat → Nat) (ca : Nat → ClassId) (tc cl : Int32) (tr : Int64) (g : Sg) (x1 : Int32) (P : Int32 → Prop) (hw : wM_isHeap P tc cl tr g x1) : Met l yX1_isHeap wsX1_isHeap ({ frames := 1, cells := 0, slots := 0, locals := 22 }) (va_Pc [.ref h, .int x1] (fun U => va_P (dC, dI) vwCl (ML h ad ca tc cl tr g) U.heap ∧ va_K (dC, dI) vwCl (MT ca) U)) (vp_Si P) 0 0 (fun _ => False) := by
  refine Met.ofW (cc := cX1_isHeap) (maxL := 5) (ret := (some .boolean)) (by decide) rfl ?_
  intro p e s m args below meth c s₁ B0 hml hv
  obtain ⟨hargs, hP, hK⟩ := hv
  have hx := B0.exec
  have hb := B0.bytes
  have hr := B0.returns
  have hts := atoms_spec (ws := wsX1_isHeap) B0.pre
  have hown : s.vm.findClass RX1 = some m.cls := findClass_of_methodNamed B0.named
  have hlocks := B0.notSynchronized
  have inw : ∀ w ∈ wsX10, w ∈ wsX1_isHeap := fun w h => List.mem_cons_of_mem _ (List.mem_append_right _ h)
  have f7 : (Cond.fieldLink RX1 7 "FlipHeapsModel" "things" "I").before args s = true := hts _ (by decide +kernel)
  have f13 : (Cond.fieldLink RX1 13 "FlipHeapsModel" "isBelow" "[Z").before args s = true := hts _ (by decide +kernel)
  have jn_82 : ∀ (B : Int32 → Int32 → Prop) (K90 : Int32 → Prop) (x1 : Int32) (x3 : Int32) (x4 : Int32) (hB : ∀ (x2 : Int32) (x4 : Int32) (ls : Array Slot), B x2 x4 → lv_has ls 5 [(0, .ref h), (1, .int x1), (2, .int x2), (3, .int x3), (4, .int x4)] → W p l e (headSpec wsX1_isHeap ({ frames := 1, cells := 0, slots := 0, locals := 22 })).room s m args below meth c s.heap [] 0 0 (MQ below (vp_Si P) args s 0 0 (fun _ => False)) (F0 m 33 ls [])) (hK90 : ∀ (x2 : Int32) (ls : Array Slot), K90 x2 → lv_has ls 5 [(0, .ref h), (1, .int x1), (2, .int x2), (3, .int x3)] → W p l e (headSpec wsX1_isHeap ({ frames := 1, cells := 0, slots := 0, locals := 22 })).room s m args below meth c s.heap [] 0 0 (MQ below (vp_Si P) args s 0 0 (fun _ => False)) (F0 m 90 ls [])) (ls : Array Slot), wM_isHeap_j82 P tc cl tr g B K90 x1 x3 x4 → lv_has ls 5 [(0, .ref h), (1, .int x1), (3, .int x3), (4, .int x4)] → W p l e (headSpec wsX1_isHeap ({ frames := 1, cells := 0, slots := 0, locals := 22 })).room s m args below meth c s.heap [] 0 0 (MQ below (vp_Si P) args s 0 0 (fun _ => False)) (F0 m 82 ls []) := by
    intro B K90 x1 x3 x4 hB hK90 ls hw hl
    unfold wM_isHeap_j82 at hw
    refine lv_iconst (v := (0 : Int32)) hx hb dX1_isHeap_82 (by decide) ?_
    refine lv_istore_n (lv' := [(2, .int (0 : Int32)), (0, .ref h), (1, .int x1), (3, .int x3), (4, .int x4)]) hx hb dX1_isHeap_83 rfl hl (by decide) rfl (fun ls hl => ?_)
    refine lv_iinc (v := (x4 + 1)) (lv' := [(4, .int ((x4 + 1))), (2, .int (0 : Int32)), (0, .ref h), (1, .int x1), (3, .int x3)]) hx hb dX1_isHeap_84 hl (k := 4) rfl rfl (by decide) rfl (fun ls hl => ?_)
    refine lv_goto (tgt := 33) hx hb dX1_isHeap_87 (by decide) ?_
    exact hB (0 : Int32) (x4 + 1) ls hw (lv_sub hl [2, 3, 1, 4, 0] rfl)
  have jn_78 : ∀ (B : Int32 → Int32 → Prop) (K90 : Int32 → Prop) (x1 : Int32) (x3 : Int32) (x4 : Int32) (hB : ∀ (x2 : Int32) (x4 : Int32) (ls : Array Slot), B x2 x4 → lv_has ls 5 [(0, .ref h), (1, .int x1), (2, .int x2), (3, .int x3), (4, .int x4)] → W p l e (headSpec wsX1_isHeap ({ frames := 1, cells := 0, slots := 0, locals := 22 })).room s m args below meth c s.heap [] 0 0 (MQ below (vp_Si P) args s 0 0 (fun _ => False)) (F0 m 33 ls [])) (hK90 : ∀ (x2 : Int32) (ls : Array Slot), K90 x2 → lv_has ls 5 [(0, .ref h), (1, .int x1), (2, .int x2), (3, .int x3)] → W p l e (headSpec wsX1_isHeap ({ frames := 1, cells := 0, slots := 0, locals := 22 })).room s m args below meth c s.heap [] 0 0 (MQ below (vp_Si P) args s 0 0 (fun _ => False)) (F0 m 90 ls [])) (ls : Array Slot), wM_isHeap_j78 P tc cl tr g B K90 x1 x3 x4 → lv_has ls 5 [(0, .ref h), (1, .int x1), (3, .int x3), (4, .int x4)] → W p l e (headSpec wsX1_isHeap ({ frames := 1, cells := 0, slots := 0, locals := 22 })).room s m args below meth c s.heap [] 0 0 (MQ below (vp_Si P) args s 0 0 (fun _ => False)) (F0 m 78 ls []) := by
    intro B K90 x1 x3 x4 hB hK90 ls hw hl
    unfold wM_isHeap_j78 at hw
    refine lv_iconst (v := (1 : Int32)) hx hb dX1_isHeap_78 (by decide) ?_
    refine lv_goto (tgt := 83) hx hb dX1_isHeap_79 (by decide) ?_
    refine lv_istore_n (lv' := [(2, .int (1 : Int32)), (0, .ref h), (1, .int x1), (3, .int x3), (4, .int x4)]) hx hb dX1_isHeap_83 rfl hl (by decide) rfl (fun ls hl => ?_)
    refine lv_iinc (v := (x4 + 1)) (lv' := [(4, .int ((x4 + 1))), (2, .int (1 : Int32)), (0, .ref h), (1, .int x1), (3, .int x3)]) hx hb dX1_isHeap_84 hl (k := 4) rfl rfl (by decide) rfl (fun ls hl => ?_)
    refine lv_goto (tgt := 33) hx hb dX1_isHeap_87 (by decide) ?_
    exact hB (1 : Int32) (x4 + 1) ls hw (lv_sub hl [2, 3, 1, 4, 0] rfl)
  have lp_33 : ∀ (x1 : Int32) (x3 : Int32) (K90 : Int32 → Prop) (hK90 : ∀ (x2 : Int32) (ls : Array Slot), K90 x2 → lv_has ls 5 [(0, .ref h), (1, .int x1), (2, .int x2), (3, .int x3)] → W p l e (headSpec wsX1_isHeap ({ frames := 1, cells := 0, slots := 0, locals := 22 })).room s m args below meth c s.heap [] 0 0 (MQ below (vp_Si P) args s 0 0 (fun _ => False)) (F0 m 90 ls [])), ∀ (n : Nat) (x2 : Int32) (x4 : Int32) (ls : Array Slot), Lp2 (wM_isHeap_b33 P tc cl tr g x1 x3 K90) n x2 x4 → lv_has ls 5 [(0, .ref h), (1, .int x1), (2, .int x2), (3, .int x3), (4, .int x4)] → W p l e (headSpec wsX1_isHeap ({ frames := 1, cells := 0, slots := 0, locals := 22 })).room s m args below meth c s.heap [] 0 0 (MQ below (vp_Si P) args s 0 0 (fun _ => False)) (F0 m 33 ls []) := by
    intro x1 x3 K90 hK90
    intro n
    induction n with
    | zero => intro x2 x4 ls hw; exact False.elim hw
    | succ n hB =>
      intro x2 x4 ls hw hl
      replace hw : wM_isHeap_b33 P tc cl tr g x1 x3 K90 (Lp2 (wM_isHeap_b33 P tc cl tr g x1 x3 K90) n) x2 x4 := hw
      unfold wM_isHeap_b33 at hw
      refine lv_iload hx hb dX1_isHeap_33 (lv_at hl 4 rfl) ?_
      refine lv_aload_n hx hb dX1_isHeap_35 rfl (lv_at hl 0 rfl) ?_
      refine va_get (D := (dC, dI)) (ci := 1) (C := RX1) (T := TX1) (N := 9) hx hb hts inw hown hK hP 0 rfl rfl 0 (by decide) f7 (fun _ h9 => h9) rfl dX1_isHeap_36 ?_
      refine lv_icmp_ge (tgt := 90) hx hb dX1_isHeap_39 (by decide) (fun hc => ?_) (fun hc => ?_)
      · replace hw := hw.1 hc
        clear hc
        exact hK90 x2 ls hw (lv_sub hl [0, 1, 2, 3] rfl)
      · replace hw := hw.2 hc
        clear hc
        refine lv_iload_n hx hb dX1_isHeap_42 rfl (lv_at hl 2 rfl) ?_
        refine lv_if_eq (tgt := 82) hx hb dX1_isHeap_43 (by decide) (fun hc => ?_) (fun hc => ?_)
        · replace hw := hw.1 hc
          clear hc
          exact jn_82 _ _ x1 x3 x4 hB hK90 ls hw (lv_sub hl [0, 1, 3, 4] rfl)
        · replace hw := hw.2 hc
          clear hc
          refine lv_aload_n hx hb dX1_isHeap_46 rfl (lv_at hl 0 rfl) ?_
          refine va_get (D := (dC, dI)) (ci := 1) (C := RX1) (T := TX1) (N := 9) hx hb hts inw hown hK hP 0 rfl rfl 1 (by decide) f13 (fun _ h9 => h9) rfl dX1_isHeap_47 ?_
          refine lv_bipush (v := (8 : Int32)) hx hb dX1_isHeap_50 (by decide) ?_
          refine lv_iload_n hx hb dX1_isHeap_52 rfl (lv_at hl 3 rfl) ?_
          refine lv_imul hx hb dX1_isHeap_53 ?_
          refine lv_iload hx hb dX1_isHeap_54 (lv_at hl 4 rfl) ?_
          refine lv_iadd hx hb dX1_isHeap_56 ?_
          obtain ⟨hin, hw⟩ := hw
          refine va_zald hx hb hK hP 1 0 rfl rfl hin dX1_isHeap_57 ?_
          refine lv_if_eq (tgt := 78) hx hb dX1_isHeap_58 (by decide) (fun hc => ?_) (fun hc => ?_)
          · replace hw := hw.1 hc
            clear hc
            exact jn_78 _ _ x1 x3 x4 hB hK90 ls hw (lv_sub hl [0, 1, 3, 4] rfl)
          · replace hw := hw.2 hc
            clear hc
            refine lv_iload_n hx hb dX1_isHeap_61 rfl (lv_at hl 1 rfl) ?_
            refine lv_iload hx hb dX1_isHeap_62 (lv_at hl 4 rfl) ?_
            refine vp_callSi (W.runS (As := [.int x1, .int x4]) (rest := []) ⟨hx, hb, hml, hown, hts⟩ (cM_has l x1 x4 _ hw) (va_cwS 2 hts gX1_isHeap_X1_has rfl rfl rfl (by decide +kernel) ⟨Nat.le_of_ble_eq_true rfl, Nat.le_of_ble_eq_true rfl⟩) ⟨fun a U g mk q => q, fun U hU hW => ⟨rfl, trivial⟩⟩ rfl rfl hl.1 rfl (lv_room (Nat.le_of_ble_eq_true rfl)) dX1_isHeap_64 ⟨Nat.zero_le _, Nat.zero_le _⟩) (fun r_1 hw => ?_)
            try dsimp only at hw
            refine lv_if_eq (tgt := 78) hx hb dX1_isHeap_67 (by decide) (fun hc => ?_) (fun hc => ?_)
            · replace hw := hw.1 hc
              clear hc
              exact jn_78 _ _ x1 x3 x4 hB hK90 ls hw (lv_sub hl [0, 1, 3, 4] rfl)
            · replace hw := hw.2 hc
              clear hc
              refine lv_iload_n hx hb dX1_isHeap_70 rfl (lv_at hl 1 rfl) ?_
              refine lv_iload_n hx hb dX1_isHeap_71 rfl (lv_at hl 3 rfl) ?_
              refine vp_callSi (W.runS (As := [.int x1, .int x3]) (rest := []) ⟨hx, hb, hml, hown, hts⟩ (cM_has l x1 x3 _ hw) (va_cwS 2 hts gX1_isHeap_X1_has rfl rfl rfl (by decide +kernel) ⟨Nat.le_of_ble_eq_true rfl, Nat.le_of_ble_eq_true rfl⟩) ⟨fun a U g mk q => q, fun U hU hW => ⟨rfl, trivial⟩⟩ rfl rfl hl.1 rfl (lv_room (Nat.le_of_ble_eq_true rfl)) dX1_isHeap_72 ⟨Nat.zero_le _, Nat.zero_le _⟩) (fun r_2 hw => ?_)
              try dsimp only at hw
              refine lv_if_eq (tgt := 82) hx hb dX1_isHeap_75 (by decide) (fun hc => ?_) (fun hc => ?_)
              · replace hw := hw.1 hc
                clear hc
                exact jn_82 _ _ x1 x3 x4 hB hK90 ls hw (lv_sub hl [0, 1, 3, 4] rfl)
              · replace hw := hw.2 hc
                clear hc
                exact jn_78 _ _ x1 x3 x4 hB hK90 ls hw (lv_sub hl [0, 1, 3, 4] rfl)
  have lp_22 : ∀ (x1 : Int32), ∀ (n : Nat) (x2 : Int32) (x3 : Int32) (ls : Array Slot), Lp2 (wM_isHeap_b22 P tc cl tr g x1) n x2 x3 → lv_has ls 5 [(0, .ref h), (1, .int x1), (2, .int x2), (3, .int x3)] → W p l e (headSpec wsX1_isHeap ({ frames := 1, cells := 0, slots := 0, locals := 22 })).room s m args below meth c s.heap [] 0 0 (MQ below (vp_Si P) args s 0 0 (fun _ => False)) (F0 m 22 ls []) := by
    intro x1
    intro n
    induction n with
    | zero => intro x2 x3 ls hw; exact False.elim hw
    | succ n hB =>
      intro x2 x3 ls hw hl
      replace hw : wM_isHeap_b22 P tc cl tr g x1 (Lp2 (wM_isHeap_b22 P tc cl tr g x1) n) x2 x3 := hw
      unfold wM_isHeap_b22 at hw
      refine lv_iload_n hx hb dX1_isHeap_22 rfl (lv_at hl 3 rfl) ?_
      refine lv_aload_n hx hb dX1_isHeap_23 rfl (lv_at hl 0 rfl) ?_
      refine va_get (D := (dC, dI)) (ci := 1) (C := RX1) (T := TX1) (N := 9) hx hb hts inw hown hK hP 0 rfl rfl 0 (by decide) f7 (fun _ h9 => h9) rfl dX1_isHeap_24 ?_
      refine lv_icmp_ge (tgt := 96) hx hb dX1_isHeap_27 (by decide) (fun hc => ?_) (fun hc => ?_)
      · replace hw := hw.1 hc
        clear hc
        refine lv_iload_n hx hb dX1_isHeap_96 rfl (lv_at hl 2 rfl) ?_
        obtain ⟨hisb, hw⟩ := hw
        exact W.zret (v := x2) hx hb hr (isB_nar hisb) (fun t ht hW => ⟨_, rfl, hw, ht⟩) (fun q h => absurd h List.not_mem_nil) dX1_isHeap_97
      · replace hw := hw.2 hc
        clear hc
        refine lv_iconst (v := (0 : Int32)) hx hb dX1_isHeap_30 (by decide) ?_
        refine lv_istore (lv' := [(4, .int (0 : Int32)), (0, .ref h), (1, .int x1), (2, .int x2), (3, .int x3)]) hx hb dX1_isHeap_31 hl (by decide) rfl (fun ls hl => ?_)
        obtain ⟨n_4, hw⟩ := hw
        refine lp_33 x1 x3 _ ?_ n_4 x2 (0 : Int32) ls hw (lv_sub hl [1, 2, 3, 4, 0] rfl)
        · intro x2_3 ls hw hl
          try dsimp only at hw
          refine lv_iinc (v := (x3 + 1)) (lv' := [(3, .int ((x3 + 1))), (0, .ref h), (1, .int x1), (2, .int x2_3)]) hx hb dX1_isHeap_90 hl (k := 3) rfl rfl (by decide) rfl (fun ls hl => ?_)
          refine lv_goto (tgt := 22) hx hb dX1_isHeap_93 (by decide) ?_
          exact hB x2_3 (x3 + 1) ls hw (lv_sub hl [1, 2, 3, 0] rfl)
  subst hargs
  unfold wM_isHeap at hw
  have hl := lv_entry ([.ref h, .int x1]) (n := 5) (Nat.le_of_ble_eq_true rfl)
  rw [lg_entry_eq]
  generalize (lg_sl ([.ref h, .int x1]) ++ List.replicate (5 - (lg_sl ([.ref h, .int x1])).length) Slot.unset).toArray = ls at hl ⊢
  have hl : lv_has ls 5 [(0, .ref h), (1, .int x1)] := hl
  refine lv_iload_n hx hb dX1_isHeap_0 rfl (lv_at hl 1 rfl) ?_
  refine lv_iconst (v := (0 : Int32)) hx hb dX1_isHeap_1 (by decide) ?_
  refine lv_iconst (v := (1 : Int32)) hx hb dX1_isHeap_2 (by decide) ?_
  refine lv_aload_n hx hb dX1_isHeap_3 rfl (lv_at hl 0 rfl) ?_
  refine va_get (D := (dC, dI)) (ci := 1) (C := RX1) (T := TX1) (N := 9) hx hb hts inw hown hK hP 0 rfl rfl 0 (by decide) f7 (fun _ h9 => h9) rfl dX1_isHeap_4 ?_
  refine lv_ishl hx hb dX1_isHeap_7 ?_
  refine lv_iconst (v := (1 : Int32)) hx hb dX1_isHeap_8 (by decide) ?_
  refine lv_isub hx hb dX1_isHeap_9 ?_
  refine vp_callSi (W.runS (As := [.int x1, .int (0 : Int32), .int ((((1 : Int32) <<< (tc &&& 31)) - (1 : Int32)))]) (rest := []) ⟨hx, hb, hml, hown, hts⟩ (cM_in l x1 (0 : Int32) (((1 : Int32) <<< (tc &&& 31)) - (1 : Int32)) _ hw) (va_cwS 3 hts gX1_isHeap_X1_in rfl rfl rfl (by decide +kernel) ⟨Nat.le_of_ble_eq_true rfl, Nat.le_of_ble_eq_true rfl⟩) ⟨fun a U g mk q => q, fun U hU hW => ⟨rfl, trivial⟩⟩ rfl rfl hl.1 rfl (lv_room (Nat.le_of_ble_eq_true rfl)) dX1_isHeap_10 ⟨Nat.zero_le _, Nat.zero_le _⟩) (fun r_5 hw => ?_)
  try dsimp only at hw
  refine lv_if_ne (tgt := 18) hx hb dX1_isHeap_13 (by decide) (fun hc => ?_) (fun hc => ?_)
  · replace hw := hw.1 hc
    clear hc
    refine lv_iconst (v := (1 : Int32)) hx hb dX1_isHeap_18 (by decide) ?_
    refine lv_istore_n (lv' := [(2, .int (1 : Int32)), (0, .ref h), (1, .int x1)]) hx hb dX1_isHeap_19 rfl hl (by decide) rfl (fun ls hl => ?_)
    refine lv_iconst (v := (0 : Int32)) hx hb dX1_isHeap_20 (by decide) ?_
    refine lv_istore_n (lv' := [(3, .int (0 : Int32)), (2, .int (1 : Int32)), (0, .ref h), (1, .int x1)]) hx hb dX1_isHeap_21 rfl hl (by decide) rfl (fun ls hl => ?_)
    obtain ⟨n_6, hw⟩ := hw
    exact lp_22 x1 n_6 (1 : Int32) (0 : Int32) ls hw (lv_sub hl [2, 3, 1, 0] rfl)
  · replace hw := hw.2 hc
    clear hc
    refine lv_iconst (v := (0 : Int32)) hx hb dX1_isHeap_16 (by decide) ?_
    exact W.zret (v := (0 : Int32)) hx hb hr rfl (fun t ht hW => ⟨_, rfl, hw, ht⟩) (fun q h => absurd h List.not_mem_nil) dX1_isHeap_17
-- X1_heap
set_option maxHeartbeats 4000000 in
set_option maxRecDepth 100000 in
theorem cM_heap (l : Launch) (dC : Nat → ClassId) (dI : Nat → Nat → Nat) (h : Nat) (ad : Nat → Nat) (ca : Nat → ClassId) (tc cl : Int32) (tr : Int64) (g : Sg) (x1 : Int32) (P : Int32 → Prop) (hw : wM_heap P tc cl tr g x1) : Met l yX1_heap wsX1_heap ({ frames := 2, cells := 0, slots := 0, locals := 46 }) (va_Pc [.ref h, .int x1] (fun U => va_P (dC, dI) vwCl (ML h ad ca tc cl tr g) U.heap ∧ va_K (dC, dI) vwCl (MT ca) U)) (vp_Si P) 0 0 (fun _ => False) := by
  refine Met.ofW (cc := cX1_heap) (maxL := 2) (ret := (some .int)) (by decide) rfl ?_
  intro p e s m args below meth c s₁ B0 hml hv
  obtain ⟨hargs, hP, hK⟩ := hv
  have hx := B0.exec
  have hb := B0.bytes
  have hr := B0.returns
  have hts := atoms_spec (ws := wsX1_heap) B0.pre
  have hown : s.vm.findClass RX1 = some m.cls := findClass_of_methodNamed B0.named
  have hlocks := B0.notSynchronized
  have inw : ∀ w ∈ wsX10, w ∈ wsX1_heap := fun w h => List.mem_cons_of_mem _ (List.mem_append_right _ h)
  have f7 : (Cond.fieldLink RX1 7 "FlipHeapsModel" "things" "I").before args s = true := hts _ (by decide +kernel)
  subst hargs
  unfold wM_heap at hw
  have hl := lv_entry ([.ref h, .int x1]) (n := 2) (Nat.le_of_ble_eq_true rfl)
  rw [lg_entry_eq]
  generalize (lg_sl ([.ref h, .int x1]) ++ List.replicate (2 - (lg_sl ([.ref h, .int x1])).length) Slot.unset).toArray = ls at hl ⊢
  have hl : lv_has ls 2 [(0, .ref h), (1, .int x1)] := hl
  refine lv_iload_n hx hb dX1_heap_0 rfl (lv_at hl 1 rfl) ?_
  refine lv_iconst (v := (0 : Int32)) hx hb dX1_heap_1 (by decide) ?_
  refine lv_iconst (v := (1 : Int32)) hx hb dX1_heap_2 (by decide) ?_
  refine lv_aload_n hx hb dX1_heap_3 rfl (lv_at hl 0 rfl) ?_
  refine va_get (D := (dC, dI)) (ci := 1) (C := RX1) (T := TX1) (N := 9) hx hb hts inw hown hK hP 0 rfl rfl 0 (by decide) f7 (fun _ h9 => h9) rfl dX1_heap_4 ?_
  refine lv_ishl hx hb dX1_heap_7 ?_
  refine lv_iconst (v := (1 : Int32)) hx hb dX1_heap_8 (by decide) ?_
  refine lv_isub hx hb dX1_heap_9 ?_
  refine vp_callSi (W.runS (As := [.int x1, .int (0 : Int32), .int ((((1 : Int32) <<< (tc &&& 31)) - (1 : Int32)))]) (rest := []) ⟨hx, hb, hml, hown, hts⟩ (cM_in l x1 (0 : Int32) (((1 : Int32) <<< (tc &&& 31)) - (1 : Int32)) _ hw) (va_cwS 3 hts gX1_heap_X1_in rfl rfl rfl (by decide +kernel) ⟨Nat.le_of_ble_eq_true rfl, Nat.le_of_ble_eq_true rfl⟩) ⟨fun a U g mk q => q, fun U hU hW => ⟨rfl, trivial⟩⟩ rfl rfl hl.1 rfl (lv_room (Nat.le_of_ble_eq_true rfl)) dX1_heap_10 ⟨Nat.zero_le _, Nat.zero_le _⟩) (fun r_1 hw => ?_)
  try dsimp only at hw
  refine lv_if_ne (tgt := 20) hx hb dX1_heap_13 (by decide) (fun hc => ?_) (fun hc => ?_)
  · replace hw := hw.1 hc
    clear hc
    refine lv_aload_n hx hb dX1_heap_20 rfl (lv_at hl 0 rfl) ?_
    refine lv_iload_n hx hb dX1_heap_21 rfl (lv_at hl 1 rfl) ?_
    refine vp_callSi (W.runV (As := [.int x1]) (rest := []) ⟨hx, hb, hml, hown, hts⟩ (cM_isHeap l dC dI h ad ca tc cl tr g x1 _ hw) (cwV 1 hts gX1_heap_X1_isHeap rfl rfl rfl (by decide +kernel) ⟨Nat.le_of_ble_eq_true rfl, Nat.le_of_ble_eq_true rfl⟩) ⟨fun a U g mk q => by obtain ⟨q0, qP, qK⟩ := q; exact ⟨q0, qP, va_K.moved (u := U) (U := U.calling g mk a) (Vm.Alike.refl U.vm) qK⟩, va_recv hK hP (ci := 1) (q0 := 0) rfl rfl, fun U hU hW => ⟨rfl, by rw [hU]; exact hP, va_K.moved hW.alike hK⟩⟩ rfl rfl hl.1 rfl (lv_room (Nat.le_of_ble_eq_true rfl)) dX1_heap_22 ⟨Nat.zero_le _, Nat.zero_le _⟩) (fun r_2 hw => ?_)
    try dsimp only at hw
    refine lv_if_eq (tgt := 32) hx hb dX1_heap_25 (by decide) (fun hc => ?_) (fun hc => ?_)
    · replace hw := hw.1 hc
      clear hc
      refine lv_iconst (v := (0 : Int32)) hx hb dX1_heap_32 (by decide) ?_
      exact W.iret (v := (0 : Int32)) hx hb hr (fun t ht hW => ⟨_, rfl, hw, ht⟩) (fun q h => absurd h List.not_mem_nil) dX1_heap_33
    · replace hw := hw.2 hc
      clear hc
      refine lv_iconst (v := (1 : Int32)) hx hb dX1_heap_28 (by decide) ?_
      refine lv_goto (tgt := 33) hx hb dX1_heap_29 (by decide) ?_
      exact W.iret (v := (1 : Int32)) hx hb hr (fun t ht hW => ⟨_, rfl, hw, ht⟩) (fun q h => absurd h List.not_mem_nil) dX1_heap_33
  · replace hw := hw.2 hc
    clear hc
    refine lv_iconst (v := (-1 : Int32)) hx hb dX1_heap_16 (by decide) ?_
    refine lv_goto (tgt := 33) hx hb dX1_heap_17 (by decide) ?_
    exact W.iret (v := (-1 : Int32)) hx hb hr (fun t ht hW => ⟨_, rfl, hw, ht⟩) (fun q h => absurd h List.not_mem_nil) dX1_heap_33
-- X1_many
set_option maxHeartbeats 4000000 in
set_option maxRecDepth 100000 in
theorem cM_many (l : Launch) (dC : Nat → ClassId) (dI : Nat → Nat → Nat) (h : Nat) (ad : Nat → Nat) (ca : Nat → ClassId) (tc cl : Int32) (tr : Int64) (g : Sg) (P : Int32 → Prop) (hw : wM_many P tc cl tr g) : Met l yX1_many wsX1_many ({ frames := 2, cells := 0, slots := 0, locals := 46 }) (va_Pc [.ref h] (fun U => va_P (dC, dI) vwCl (ML h ad ca tc cl tr g) U.heap ∧ va_K (dC, dI) vwCl (MT ca) U)) (vp_Si P) 0 0 (fun _ => False) := by
  refine Met.ofW (cc := cX1_many) (maxL := 3) (ret := (some .int)) (by decide) rfl ?_
  intro p e s m args below meth c s₁ B0 hml hv
  obtain ⟨hargs, hP, hK⟩ := hv
  have hx := B0.exec
  have hb := B0.bytes
  have hr := B0.returns
  have hts := atoms_spec (ws := wsX1_many) B0.pre
  have hown : s.vm.findClass RX1 = some m.cls := findClass_of_methodNamed B0.named
  have hlocks := B0.notSynchronized
  have inw : ∀ w ∈ wsX10, w ∈ wsX1_many := fun w h => List.mem_cons_of_mem _ (List.mem_append_right _ h)
  have f7 : (Cond.fieldLink RX1 7 "FlipHeapsModel" "things" "I").before args s = true := hts _ (by decide +kernel)
  have jn_28 : ∀ (B : Int32 → Int32 → Prop) (x2 : Int32) (y0 : Int32) (y1 : Int32) (hB : ∀ (x1 : Int32) (x2 : Int32) (ls : Array Slot), B x1 x2 → lv_has ls 3 [(0, .ref h), (1, .int x1), (2, .int x2)] → W p l e (headSpec wsX1_many ({ frames := 2, cells := 0, slots := 0, locals := 46 })).room s m args below meth c s.heap [] 0 0 (MQ below (vp_Si P) args s 0 0 (fun _ => False)) (F0 m 4 ls [])) (ls : Array Slot), wM_many_j28 P tc cl tr g B x2 y0 y1 → lv_has ls 3 [(0, .ref h), (2, .int x2)] → W p l e (headSpec wsX1_many ({ frames := 2, cells := 0, slots := 0, locals := 46 })).room s m args below meth c s.heap [] 0 0 (MQ below (vp_Si P) args s 0 0 (fun _ => False)) (F0 m 28 ls [.int y1, .int y0]) := by
    intro B x2 y0 y1 hB ls hw hl
    unfold wM_many_j28 at hw
    refine lv_iadd hx hb dX1_many_28 ?_
    refine lv_topi (fun x1_1 hv => ?_)
    replace hw := hw x1_1 hv
    clear hv
    refine lv_istore_n (lv' := [(1, .int x1_1), (0, .ref h), (2, .int x2)]) hx hb dX1_many_29 rfl hl (by decide) rfl (fun ls hl => ?_)
    refine lv_iinc (v := (x2 + 1)) (lv' := [(2, .int ((x2 + 1))), (1, .int x1_1), (0, .ref h)]) hx hb dX1_many_30 hl (k := 2) rfl rfl (by decide) rfl (fun ls hl => ?_)
    refine lv_goto (tgt := 4) hx hb dX1_many_33 (by decide) ?_
    exact hB x1_1 (x2 + 1) ls hw (lv_sub hl [2, 1, 0] rfl)
  have lp_4 : ∀ (n : Nat) (x1 : Int32) (x2 : Int32) (ls : Array Slot), Lp2 (wM_many_b4 P tc cl tr g) n x1 x2 → lv_has ls 3 [(0, .ref h), (1, .int x1), (2, .int x2)] → W p l e (headSpec wsX1_many ({ frames := 2, cells := 0, slots := 0, locals := 46 })).room s m args below meth c s.heap [] 0 0 (MQ below (vp_Si P) args s 0 0 (fun _ => False)) (F0 m 4 ls []) := by
    intro n
    induction n with
    | zero => intro x1 x2 ls hw; exact False.elim hw
    | succ n hB =>
      intro x1 x2 ls hw hl
      replace hw : wM_many_b4 P tc cl tr g (Lp2 (wM_many_b4 P tc cl tr g) n) x1 x2 := hw
      unfold wM_many_b4 at hw
      refine lv_iload_n hx hb dX1_many_4 rfl (lv_at hl 2 rfl) ?_
      refine lv_iconst (v := (1 : Int32)) hx hb dX1_many_5 (by decide) ?_
      refine lv_aload_n hx hb dX1_many_6 rfl (lv_at hl 0 rfl) ?_
      refine va_get (D := (dC, dI)) (ci := 1) (C := RX1) (T := TX1) (N := 9) hx hb hts inw hown hK hP 0 rfl rfl 0 (by decide) f7 (fun _ h9 => h9) rfl dX1_many_7 ?_
      refine lv_ishl hx hb dX1_many_10 ?_
      refine lv_icmp_ge (tgt := 36) hx hb dX1_many_11 (by decide) (fun hc => ?_) (fun hc => ?_)
      · replace hw := hw.1 hc
        clear hc
        refine lv_iload_n hx hb dX1_many_36 rfl (lv_at hl 1 rfl) ?_
        exact W.iret (v := x1) hx hb hr (fun t ht hW => ⟨_, rfl, hw, ht⟩) (fun q h => absurd h List.not_mem_nil) dX1_many_37
      · replace hw := hw.2 hc
        clear hc
        refine lv_iload_n hx hb dX1_many_14 rfl (lv_at hl 1 rfl) ?_
        refine lv_aload_n hx hb dX1_many_15 rfl (lv_at hl 0 rfl) ?_
        refine lv_iload_n hx hb dX1_many_16 rfl (lv_at hl 2 rfl) ?_
        refine vp_callSi (W.runV (As := [.int x2]) (rest := [.int x1]) ⟨hx, hb, hml, hown, hts⟩ (cM_isHeap l dC dI h ad ca tc cl tr g x2 _ hw) (cwV 1 hts gX1_many_X1_isHeap rfl rfl rfl (by decide +kernel) ⟨Nat.le_of_ble_eq_true rfl, Nat.le_of_ble_eq_true rfl⟩) ⟨fun a U g mk q => by obtain ⟨q0, qP, qK⟩ := q; exact ⟨q0, qP, va_K.moved (u := U) (U := U.calling g mk a) (Vm.Alike.refl U.vm) qK⟩, va_recv hK hP (ci := 1) (q0 := 0) rfl rfl, fun U hU hW => ⟨rfl, by rw [hU]; exact hP, va_K.moved hW.alike hK⟩⟩ rfl rfl hl.1 rfl (lv_room (Nat.le_of_ble_eq_true rfl)) dX1_many_17 ⟨Nat.zero_le _, Nat.zero_le _⟩) (fun r_2 hw => ?_)
        try dsimp only at hw
        refine lv_if_eq (tgt := 27) hx hb dX1_many_20 (by decide) (fun hc => ?_) (fun hc => ?_)
        · replace hw := hw.1 hc
          clear hc
          refine lv_iconst (v := (0 : Int32)) hx hb dX1_many_27 (by decide) ?_
          exact jn_28 _ x2 x1 (0 : Int32) hB ls hw (lv_sub hl [0, 2] rfl)
        · replace hw := hw.2 hc
          clear hc
          refine lv_iconst (v := (1 : Int32)) hx hb dX1_many_23 (by decide) ?_
          refine lv_goto (tgt := 28) hx hb dX1_many_24 (by decide) ?_
          exact jn_28 _ x2 x1 (1 : Int32) hB ls hw (lv_sub hl [0, 2] rfl)
  subst hargs
  unfold wM_many at hw
  have hl := lv_entry ([.ref h]) (n := 3) (Nat.le_of_ble_eq_true rfl)
  rw [lg_entry_eq]
  generalize (lg_sl ([.ref h]) ++ List.replicate (3 - (lg_sl ([.ref h])).length) Slot.unset).toArray = ls at hl ⊢
  have hl : lv_has ls 3 [(0, .ref h)] := hl
  refine lv_iconst (v := (0 : Int32)) hx hb dX1_many_0 (by decide) ?_
  refine lv_istore_n (lv' := [(1, .int (0 : Int32)), (0, .ref h)]) hx hb dX1_many_1 rfl hl (by decide) rfl (fun ls hl => ?_)
  refine lv_iconst (v := (0 : Int32)) hx hb dX1_many_2 (by decide) ?_
  refine lv_istore_n (lv' := [(2, .int (0 : Int32)), (1, .int (0 : Int32)), (0, .ref h)]) hx hb dX1_many_3 rfl hl (by decide) rfl (fun ls hl => ?_)
  obtain ⟨n_3, hw⟩ := hw
  exact lp_4 n_3 (0 : Int32) (0 : Int32) ls hw (lv_sub hl [2, 1, 0] rfl)
-- X1_flipped
set_option maxHeartbeats 4000000 in
set_option maxRecDepth 100000 in
theorem cM_flipped (l : Launch) (dC : Nat → ClassId) (dI : Nat → Nat → Nat) (h : Nat) (ad : Nat → Nat) (ca : Nat → ClassId) (tc cl : Int32) (tr : Int64) (g : Sg) (x1 : Int32) (x2 : Int32) (P : Int32 → Prop) (hw : wM_flipped P tc cl tr g x1 x2) : Met l yX1_flipped wsX1_flipped ({ frames := 2, cells := 0, slots := 0, locals := 46 }) (va_Pc [.ref h, .int x1, .int x2] (fun U => va_P (dC, dI) vwCl (ML h ad ca tc cl tr g) U.heap ∧ va_K (dC, dI) vwCl (MT ca) U)) (vp_Si P) 0 0 (fun _ => False) := by
  refine Met.ofW (cc := cX1_flipped) (maxL := 4) (ret := (some .int)) (by decide) rfl ?_
  intro p e s m args below meth c s₁ B0 hml hv
  obtain ⟨hargs, hP, hK⟩ := hv
  have hx := B0.exec
  have hb := B0.bytes
  have hr := B0.returns
  have hts := atoms_spec (ws := wsX1_flipped) B0.pre
  have hown : s.vm.findClass RX1 = some m.cls := findClass_of_methodNamed B0.named
  have hlocks := B0.notSynchronized
  have inw : ∀ w ∈ wsX10, w ∈ wsX1_flipped := fun w h => List.mem_cons_of_mem _ (List.mem_append_right _ h)
  subst hargs
  unfold wM_flipped at hw
  have hl := lv_entry ([.ref h, .int x1, .int x2]) (n := 4) (Nat.le_of_ble_eq_true rfl)
  rw [lg_entry_eq]
  generalize (lg_sl ([.ref h, .int x1, .int x2]) ++ List.replicate (4 - (lg_sl ([.ref h, .int x1, .int x2])).length) Slot.unset).toArray = ls at hl ⊢
  have hl : lv_has ls 4 [(0, .ref h), (1, .int x1), (2, .int x2)] := hl
  refine lv_iload_n hx hb dX1_flipped_0 rfl (lv_at hl 1 rfl) ?_
  refine lv_iconst (v := (1 : Int32)) hx hb dX1_flipped_1 (by decide) ?_
  refine lv_iload_n hx hb dX1_flipped_2 rfl (lv_at hl 2 rfl) ?_
  refine lv_ishl hx hb dX1_flipped_3 ?_
  refine lv_ixor hx hb dX1_flipped_4 ?_
  refine lv_topi (fun x3_1 hv => ?_)
  replace hw := hw x3_1 hv
  clear hv
  refine lv_istore_n (lv' := [(3, .int x3_1), (0, .ref h), (1, .int x1), (2, .int x2)]) hx hb dX1_flipped_5 rfl hl (by decide) rfl (fun ls hl => ?_)
  refine lv_aload_n hx hb dX1_flipped_6 rfl (lv_at hl 1 rfl) ?_
  refine lv_iload_n hx hb dX1_flipped_7 rfl (lv_at hl 0 rfl) ?_
  refine vp_callSi (W.runV (As := [.int x3_1]) (rest := []) ⟨hx, hb, hml, hown, hts⟩ (cM_isHeap l dC dI h ad ca tc cl tr g x3_1 _ hw) (cwV 1 hts gX1_flipped_X1_isHeap rfl rfl rfl (by decide +kernel) ⟨Nat.le_of_ble_eq_true rfl, Nat.le_of_ble_eq_true rfl⟩) ⟨fun a U g mk q => by obtain ⟨q0, qP, qK⟩ := q; exact ⟨q0, qP, va_K.moved (u := U) (U := U.calling g mk a) (Vm.Alike.refl U.vm) qK⟩, va_recv hK hP (ci := 1) (q0 := 0) rfl rfl, fun U hU hW => ⟨rfl, by rw [hU]; exact hP, va_K.moved hW.alike hK⟩⟩ rfl rfl hl.1 rfl (lv_room (Nat.le_of_ble_eq_true rfl)) dX1_flipped_8 ⟨Nat.zero_le _, Nat.zero_le _⟩) (fun r_2 hw => ?_)
  try dsimp only at hw
  refine lv_if_eq (tgt := 18) hx hb dX1_flipped_11 (by decide) (fun hc => ?_) (fun hc => ?_)
  · replace hw := hw.1 hc
    clear hc
    refine lv_iload_n hx hb dX1_flipped_18 rfl (lv_at hl 2 rfl) ?_
    exact W.iret (v := x1) hx hb hr (fun t ht hW => ⟨_, rfl, hw, ht⟩) (fun q h => absurd h List.not_mem_nil) dX1_flipped_19
  · replace hw := hw.2 hc
    clear hc
    refine lv_iload_n hx hb dX1_flipped_14 rfl (lv_at hl 0 rfl) ?_
    refine lv_goto (tgt := 19) hx hb dX1_flipped_15 (by decide) ?_
    exact W.iret (v := x3_1) hx hb hr (fun t ht hW => ⟨_, rfl, hw, ht⟩) (fun q h => absurd h List.not_mem_nil) dX1_flipped_19
-- X1_flip
set_option maxHeartbeats 4000000 in
set_option maxRecDepth 100000 in
theorem cM_flip (l : Launch) (dC : Nat → ClassId) (dI : Nat → Nat → Nat) (h : Nat) (ad : Nat → Nat) (ca : Nat → ClassId) (tc cl : Int32) (tr : Int64) (g : Sg) (x1 : Int32) (x2 : Int32) (P : Int32 → Prop) (hw : wM_flip P tc cl tr g x1 x2) : Met l yX1_flip wsX1_flip ({ frames := 3, cells := 0, slots := 0, locals := 69 }) (va_Pc [.ref h, .int x1, .int x2] (fun U => va_P (dC, dI) vwCl (ML h ad ca tc cl tr g) U.heap ∧ va_K (dC, dI) vwCl (MT ca) U)) (vp_Si P) 0 0 (fun _ => False) := by
  refine Met.ofW (cc := cX1_flip) (maxL := 3) (ret := (some .int)) (by decide) rfl ?_
  intro p e s m args below meth c s₁ B0 hml hv
  obtain ⟨hargs, hP, hK⟩ := hv
  have hx := B0.exec
  have hb := B0.bytes
  have hr := B0.returns
  have hts := atoms_spec (ws := wsX1_flip) B0.pre
  have hown : s.vm.findClass RX1 = some m.cls := findClass_of_methodNamed B0.named
  have hlocks := B0.notSynchronized
  have inw : ∀ w ∈ wsX10, w ∈ wsX1_flip := fun w h => List.mem_cons_of_mem _ (List.mem_append_right _ h)
  subst hargs
  unfold wM_flip at hw
  have hl := lv_entry ([.ref h, .int x1, .int x2]) (n := 3) (Nat.le_of_ble_eq_true rfl)
  rw [lg_entry_eq]
  generalize (lg_sl ([.ref h, .int x1, .int x2]) ++ List.replicate (3 - (lg_sl ([.ref h, .int x1, .int x2])).length) Slot.unset).toArray = ls at hl ⊢
  have hl : lv_has ls 3 [(0, .ref h), (1, .int x1), (2, .int x2)] := hl
  refine lv_aload_n hx hb dX1_flip_0 rfl (lv_at hl 0 rfl) ?_
  refine lv_iload_n hx hb dX1_flip_1 rfl (lv_at hl 1 rfl) ?_
  refine vp_callSi (W.runV (As := [.int x1]) (rest := []) ⟨hx, hb, hml, hown, hts⟩ (cM_isHeap l dC dI h ad ca tc cl tr g x1 _ hw) (cwV 1 hts gX1_flip_X1_isHeap rfl rfl rfl (by decide +kernel) ⟨Nat.le_of_ble_eq_true rfl, Nat.le_of_ble_eq_true rfl⟩) ⟨fun a U g mk q => by obtain ⟨q0, qP, qK⟩ := q; exact ⟨q0, qP, va_K.moved (u := U) (U := U.calling g mk a) (Vm.Alike.refl U.vm) qK⟩, va_recv hK hP (ci := 1) (q0 := 0) rfl rfl, fun U hU hW => ⟨rfl, by rw [hU]; exact hP, va_K.moved hW.alike hK⟩⟩ rfl rfl hl.1 rfl (lv_room (Nat.le_of_ble_eq_true rfl)) dX1_flip_2 ⟨Nat.zero_le _, Nat.zero_le _⟩) (fun r_1 hw => ?_)
  try dsimp only at hw
  refine lv_if_eq (tgt := 25) hx hb dX1_flip_5 (by decide) (fun hc => ?_) (fun hc => ?_)
  · replace hw := hw.1 hc
    clear hc
    refine lv_iconst (v := (-1 : Int32)) hx hb dX1_flip_25 (by decide) ?_
    exact W.iret (v := (-1 : Int32)) hx hb hr (fun t ht hW => ⟨_, rfl, hw, ht⟩) (fun q h => absurd h List.not_mem_nil) dX1_flip_26
  · replace hw := hw.2 hc
    clear hc
    refine lv_aload_n hx hb dX1_flip_8 rfl (lv_at hl 0 rfl) ?_
    refine lv_iload_n hx hb dX1_flip_9 rfl (lv_at hl 2 rfl) ?_
    refine vp_callSi (W.runV (As := [.int x2]) (rest := []) ⟨hx, hb, hml, hown, hts⟩ (cM_isThing l dC dI h ad ca tc cl tr g x2 _ hw) (cwV 1 hts gX1_flip_X1_isThing rfl rfl rfl (by decide +kernel) ⟨Nat.le_of_ble_eq_true rfl, Nat.le_of_ble_eq_true rfl⟩) ⟨fun a U g mk q => by obtain ⟨q0, qP, qK⟩ := q; exact ⟨q0, qP, va_K.moved (u := U) (U := U.calling g mk a) (Vm.Alike.refl U.vm) qK⟩, va_recv hK hP (ci := 1) (q0 := 0) rfl rfl, fun U hU hW => ⟨rfl, by rw [hU]; exact hP, va_K.moved hW.alike hK⟩⟩ rfl rfl hl.1 rfl (lv_room (Nat.le_of_ble_eq_true rfl)) dX1_flip_10 ⟨Nat.zero_le _, Nat.zero_le _⟩) (fun r_2 hw => ?_)
    try dsimp only at hw
    refine lv_if_eq (tgt := 25) hx hb dX1_flip_13 (by decide) (fun hc => ?_) (fun hc => ?_)
    · replace hw := hw.1 hc
      clear hc
      refine lv_iconst (v := (-1 : Int32)) hx hb dX1_flip_25 (by decide) ?_
      exact W.iret (v := (-1 : Int32)) hx hb hr (fun t ht hW => ⟨_, rfl, hw, ht⟩) (fun q h => absurd h List.not_mem_nil) dX1_flip_26
    · replace hw := hw.2 hc
      clear hc
      refine lv_aload_n hx hb dX1_flip_16 rfl (lv_at hl 0 rfl) ?_
      refine lv_iload_n hx hb dX1_flip_17 rfl (lv_at hl 1 rfl) ?_
      refine lv_iload_n hx hb dX1_flip_18 rfl (lv_at hl 2 rfl) ?_
      refine vp_callSi (W.runV (As := [.int x1, .int x2]) (rest := []) ⟨hx, hb, hml, hown, hts⟩ (cM_flipped l dC dI h ad ca tc cl tr g x1 x2 _ hw) (cwV 2 hts gX1_flip_X1_flipped rfl rfl rfl (by decide +kernel) ⟨Nat.le_of_ble_eq_true rfl, Nat.le_of_ble_eq_true rfl⟩) ⟨fun a U g mk q => by obtain ⟨q0, qP, qK⟩ := q; exact ⟨q0, qP, va_K.moved (u := U) (U := U.calling g mk a) (Vm.Alike.refl U.vm) qK⟩, va_recv hK hP (ci := 1) (q0 := 0) rfl rfl, fun U hU hW => ⟨rfl, by rw [hU]; exact hP, va_K.moved hW.alike hK⟩⟩ rfl rfl hl.1 rfl (lv_room (Nat.le_of_ble_eq_true rfl)) dX1_flip_19 ⟨Nat.zero_le _, Nat.zero_le _⟩) (fun r_3 hw => ?_)
      try dsimp only at hw
      refine lv_goto (tgt := 26) hx hb dX1_flip_22 (by decide) ?_
      exact W.iret (v := r_3) hx hb hr (fun t ht hW => ⟨_, rfl, hw, ht⟩) (fun q h => absurd h List.not_mem_nil) dX1_flip_26
-- X1_turned
set_option maxHeartbeats 4000000 in
set_option maxRecDepth 100000 in
theorem cM_turned (l : Launch) (dC : Nat → ClassId) (dI : Nat → Nat → Nat) (h : Nat) (ad : Nat → Nat) (ca : Nat → ClassId) (tc cl : Int32) (tr : Int64) (g : Sg) (x1 : Int32) (x2 : Int32) (P : Int32 → Prop) (hw : wM_turned P tc cl tr g x1 x2) : Met l yX1_turned wsX1_turned ({ frames := 3, cells := 0, slots := 0, locals := 69 }) (va_Pc [.ref h, .int x1, .int x2] (fun U => va_P (dC, dI) vwCl (ML h ad ca tc cl tr g) U.heap ∧ va_K (dC, dI) vwCl (MT ca) U)) (vp_Si P) 0 0 (fun _ => False) := by
  refine Met.ofW (cc := cX1_turned) (maxL := 9) (ret := (some .int)) (by decide) rfl ?_
  intro p e s m args below meth c s₁ B0 hml hv
  obtain ⟨hargs, hP, hK⟩ := hv
  have hx := B0.exec
  have hb := B0.bytes
  have hr := B0.returns
  have hts := atoms_spec (ws := wsX1_turned) B0.pre
  have hown : s.vm.findClass RX1 = some m.cls := findClass_of_methodNamed B0.named
  have hlocks := B0.notSynchronized
  have inw : ∀ w ∈ wsX10, w ∈ wsX1_turned := fun w h => List.mem_cons_of_mem _ (List.mem_append_right _ h)
  have f7 : (Cond.fieldLink RX1 7 "FlipHeapsModel" "things" "I").before args s = true := hts _ (by decide +kernel)
  have f13 : (Cond.fieldLink RX1 13 "FlipHeapsModel" "isBelow" "[Z").before args s = true := hts _ (by decide +kernel)
  have f21 : (Cond.fieldLink RX1 21 "FlipHeapsModel" "word" "[I").before args s = true := hts _ (by decide +kernel)
  have f33 : (Cond.fieldLink RX1 33 "FlipHeapsModel" "said" "I").before args s = true := hts _ (by decide +kernel)
  have lp_10 : ∀ (n : Nat) (x3 : Int32) (x4 : Int32) (ls : Array Slot), Lp2 (wM_turned_b10 P tc cl tr g) n x3 x4 → lv_has ls 9 [(0, .ref h), (3, .int x3), (4, .int x4)] → W p l e (headSpec wsX1_turned ({ frames := 3, cells := 0, slots := 0, locals := 69 })).room s m args below meth c s.heap [] 0 0 (MQ below (vp_Si P) args s 0 0 (fun _ => False)) (F0 m 10 ls []) := by
    intro n
    induction n with
    | zero => intro x3 x4 ls hw; exact False.elim hw
    | succ n hB =>
      intro x3 x4 ls hw hl
      replace hw : wM_turned_b10 P tc cl tr g (Lp2 (wM_turned_b10 P tc cl tr g) n) x3 x4 := hw
      unfold wM_turned_b10 at hw
      refine lv_iload hx hb dX1_turned_10 (lv_at hl 2 rfl) ?_
      refine lv_aload_n hx hb dX1_turned_12 rfl (lv_at hl 0 rfl) ?_
      refine va_get (D := (dC, dI)) (ci := 1) (C := RX1) (T := TX1) (N := 9) hx hb hts inw hown hK hP 0 rfl rfl 4 (by decide) f33 (fun _ h9 => h9) rfl dX1_turned_13 ?_
      refine lv_icmp_ge (tgt := 38) hx hb dX1_turned_16 (by decide) (fun hc => ?_) (fun hc => ?_)
      · replace hw := hw.1 hc
        clear hc
        refine lv_iload_n hx hb dX1_turned_38 rfl (lv_at hl 1 rfl) ?_
        exact W.iret (v := x3) hx hb hr (fun t ht hW => ⟨_, rfl, hw, ht⟩) (fun q h => absurd h List.not_mem_nil) dX1_turned_39
      · replace hw := hw.2 hc
        clear hc
        refine lv_aload_n hx hb dX1_turned_19 rfl (lv_at hl 0 rfl) ?_
        refine lv_iload_n hx hb dX1_turned_20 rfl (lv_at hl 1 rfl) ?_
        refine lv_aload_n hx hb dX1_turned_21 rfl (lv_at hl 0 rfl) ?_
        refine va_get (D := (dC, dI)) (ci := 1) (C := RX1) (T := TX1) (N := 9) hx hb hts inw hown hK hP 0 rfl rfl 3 (by decide) f21 (fun _ h9 => h9) rfl dX1_turned_22 ?_
        refine lv_iload hx hb dX1_turned_25 (lv_at hl 2 rfl) ?_
        obtain ⟨hin, hw⟩ := hw
        refine va_iald hx hb hK hP 3 2 rfl rfl hin dX1_turned_27 ?_
        refine vp_callSi (W.runV (As := [.int x3, .int ((g 3 (x4).toNatClampNeg))]) (rest := []) ⟨hx, hb, hml, hown, hts⟩ (cM_flipped l dC dI h ad ca tc cl tr g x3 (g 3 (x4).toNatClampNeg) _ hw) (cwV 2 hts gX1_turned_X1_flipped rfl rfl rfl (by decide +kernel) ⟨Nat.le_of_ble_eq_true rfl, Nat.le_of_ble_eq_true rfl⟩) ⟨fun a U g mk q => by obtain ⟨q0, qP, qK⟩ := q; exact ⟨q0, qP, va_K.moved (u := U) (U := U.calling g mk a) (Vm.Alike.refl U.vm) qK⟩, va_recv hK hP (ci := 1) (q0 := 0) rfl rfl, fun U hU hW => ⟨rfl, by rw [hU]; exact hP, va_K.moved hW.alike hK⟩⟩ rfl rfl hl.1 rfl (lv_room (Nat.le_of_ble_eq_true rfl)) dX1_turned_28 ⟨Nat.zero_le _, Nat.zero_le _⟩) (fun r_1 hw => ?_)
        try dsimp only at hw
        refine lv_istore_n (lv' := [(3, .int r_1), (0, .ref h), (4, .int x4)]) hx hb dX1_turned_31 rfl hl (by decide) rfl (fun ls hl => ?_)
        refine lv_iinc (v := (x4 + 1)) (lv' := [(4, .int ((x4 + 1))), (3, .int r_1), (0, .ref h)]) hx hb dX1_turned_32 hl (k := 2) rfl rfl (by decide) rfl (fun ls hl => ?_)
        refine lv_goto (tgt := 10) hx hb dX1_turned_35 (by decide) ?_
        exact hB r_1 (x4 + 1) ls hw (lv_sub hl [2, 1, 0] rfl)
  have jn_152 : ∀ (B : Int32 → Int32 → Int32 → Prop) (K161 : Int32 → Int32 → Prop) (x1 : Int32) (x4 : Int32) (x5 : Int32) (x6 : Int32) (x8 : Int32) (y0 : Int32) (y1 : Int32) (hB : ∀ (x6 : Int32) (x7 : Int32) (x8 : Int32) (ls : Array Slot), B x6 x7 x8 → lv_has ls 9 [(0, .ref h), (1, .int x1), (4, .int x4), (5, .int x5), (6, .int x6), (7, .int x7), (8, .int x8)] → W p l e (headSpec wsX1_turned ({ frames := 3, cells := 0, slots := 0, locals := 69 })).room s m args below meth c s.heap [] 0 0 (MQ below (vp_Si P) args s 0 0 (fun _ => False)) (F0 m 80 ls [])) (hK161 : ∀ (x6 : Int32) (x7 : Int32) (ls : Array Slot), K161 x6 x7 → lv_has ls 9 [(0, .ref h), (1, .int x1), (4, .int x4), (5, .int x5), (6, .int x6), (7, .int x7)] → W p l e (headSpec wsX1_turned ({ frames := 3, cells := 0, slots := 0, locals := 69 })).room s m args below meth c s.heap [] 0 0 (MQ below (vp_Si P) args s 0 0 (fun _ => False)) (F0 m 161 ls [])) (ls : Array Slot), wM_turned_j152 P tc cl tr g B K161 x1 x4 x5 x6 x8 y0 y1 → lv_has ls 9 [(0, .ref h), (1, .int x1), (4, .int x4), (5, .int x5), (6, .int x6), (8, .int x8)] → W p l e (headSpec wsX1_turned ({ frames := 3, cells := 0, slots := 0, locals := 69 })).room s m args below meth c s.heap [] 0 0 (MQ below (vp_Si P) args s 0 0 (fun _ => False)) (F0 m 152 ls [.int y1, .int y0]) := by
    intro B K161 x1 x4 x5 x6 x8 y0 y1 hB hK161 ls hw hl
    unfold wM_turned_j152 at hw
    refine lv_ior hx hb dX1_turned_152 ?_
    refine lv_topi (fun x7_2 hv => ?_)
    replace hw := hw x7_2 hv
    clear hv
    refine lv_istore (lv' := [(7, .int x7_2), (0, .ref h), (1, .int x1), (4, .int x4), (5, .int x5), (6, .int x6), (8, .int x8)]) hx hb dX1_turned_153 hl (by decide) rfl (fun ls hl => ?_)
    refine lv_iinc (v := (x8 + 1)) (lv' := [(8, .int ((x8 + 1))), (7, .int x7_2), (0, .ref h), (1, .int x1), (4, .int x4), (5, .int x5), (6, .int x6)]) hx hb dX1_turned_155 hl (k := 6) rfl rfl (by decide) rfl (fun ls hl => ?_)
    refine lv_goto (tgt := 80) hx hb dX1_turned_158 (by decide) ?_
    exact hB x6 x7_2 (x8 + 1) ls hw (lv_sub hl [2, 3, 4, 5, 6, 1, 0] rfl)
  have jn_124 : ∀ (B : Int32 → Int32 → Int32 → Prop) (K161 : Int32 → Int32 → Prop) (x1 : Int32) (x4 : Int32) (x5 : Int32) (x7 : Int32) (x8 : Int32) (y0 : Int32) (hB : ∀ (x6 : Int32) (x7 : Int32) (x8 : Int32) (ls : Array Slot), B x6 x7 x8 → lv_has ls 9 [(0, .ref h), (1, .int x1), (4, .int x4), (5, .int x5), (6, .int x6), (7, .int x7), (8, .int x8)] → W p l e (headSpec wsX1_turned ({ frames := 3, cells := 0, slots := 0, locals := 69 })).room s m args below meth c s.heap [] 0 0 (MQ below (vp_Si P) args s 0 0 (fun _ => False)) (F0 m 80 ls [])) (hK161 : ∀ (x6 : Int32) (x7 : Int32) (ls : Array Slot), K161 x6 x7 → lv_has ls 9 [(0, .ref h), (1, .int x1), (4, .int x4), (5, .int x5), (6, .int x6), (7, .int x7)] → W p l e (headSpec wsX1_turned ({ frames := 3, cells := 0, slots := 0, locals := 69 })).room s m args below meth c s.heap [] 0 0 (MQ below (vp_Si P) args s 0 0 (fun _ => False)) (F0 m 161 ls [])) (ls : Array Slot), wM_turned_j124 P tc cl tr g B K161 x1 x4 x5 x7 x8 y0 → lv_has ls 9 [(0, .ref h), (1, .int x1), (4, .int x4), (5, .int x5), (7, .int x7), (8, .int x8)] → W p l e (headSpec wsX1_turned ({ frames := 3, cells := 0, slots := 0, locals := 69 })).room s m args below meth c s.heap [] 0 0 (MQ below (vp_Si P) args s 0 0 (fun _ => False)) (F0 m 124 ls [.int y0]) := by
    intro B K161 x1 x4 x5 x7 x8 y0 hB hK161 ls hw hl
    unfold wM_turned_j124 at hw
    refine lv_istore (lv' := [(6, .int y0), (0, .ref h), (1, .int x1), (4, .int x4), (5, .int x5), (7, .int x7), (8, .int x8)]) hx hb dX1_turned_124 hl (by decide) rfl (fun ls hl => ?_)
    refine lv_iload hx hb dX1_turned_126 (lv_at hl 5 rfl) ?_
    refine lv_aload_n hx hb dX1_turned_128 rfl (lv_at hl 1 rfl) ?_
    refine va_get (D := (dC, dI)) (ci := 1) (C := RX1) (T := TX1) (N := 9) hx hb hts inw hown hK hP 0 rfl rfl 1 (by decide) f13 (fun _ h9 => h9) rfl dX1_turned_129 ?_
    refine lv_bipush (v := (8 : Int32)) hx hb dX1_turned_132 (by decide) ?_
    refine lv_iload hx hb dX1_turned_134 (lv_at hl 6 rfl) ?_
    refine lv_imul hx hb dX1_turned_136 ?_
    refine lv_iload hx hb dX1_turned_137 (lv_at hl 4 rfl) ?_
    refine lv_iadd hx hb dX1_turned_139 ?_
    obtain ⟨hin, hw⟩ := hw
    refine va_zald hx hb hK hP 1 0 rfl rfl hin dX1_turned_140 ?_
    refine lv_if_eq (tgt := 151) hx hb dX1_turned_141 (by decide) (fun hc => ?_) (fun hc => ?_)
    · replace hw := hw.1 hc
      clear hc
      refine lv_iconst (v := (0 : Int32)) hx hb dX1_turned_151 (by decide) ?_
      exact jn_152 _ _ x1 x4 x5 y0 x8 x7 (0 : Int32) hB hK161 ls hw (lv_sub hl [1, 2, 3, 4, 0, 6] rfl)
    · replace hw := hw.2 hc
      clear hc
      refine lv_iconst (v := (1 : Int32)) hx hb dX1_turned_144 (by decide) ?_
      refine lv_iload hx hb dX1_turned_145 (lv_at hl 6 rfl) ?_
      refine lv_ishl hx hb dX1_turned_147 ?_
      refine lv_goto (tgt := 152) hx hb dX1_turned_148 (by decide) ?_
      exact jn_152 _ _ x1 x4 x5 y0 x8 x7 ((1 : Int32) <<< (x8 &&& 31)) hB hK161 ls hw (lv_sub hl [1, 2, 3, 4, 0, 6] rfl)
  have jn_123 : ∀ (B : Int32 → Int32 → Int32 → Prop) (K161 : Int32 → Int32 → Prop) (x1 : Int32) (x4 : Int32) (x5 : Int32) (x7 : Int32) (x8 : Int32) (hB : ∀ (x6 : Int32) (x7 : Int32) (x8 : Int32) (ls : Array Slot), B x6 x7 x8 → lv_has ls 9 [(0, .ref h), (1, .int x1), (4, .int x4), (5, .int x5), (6, .int x6), (7, .int x7), (8, .int x8)] → W p l e (headSpec wsX1_turned ({ frames := 3, cells := 0, slots := 0, locals := 69 })).room s m args below meth c s.heap [] 0 0 (MQ below (vp_Si P) args s 0 0 (fun _ => False)) (F0 m 80 ls [])) (hK161 : ∀ (x6 : Int32) (x7 : Int32) (ls : Array Slot), K161 x6 x7 → lv_has ls 9 [(0, .ref h), (1, .int x1), (4, .int x4), (5, .int x5), (6, .int x6), (7, .int x7)] → W p l e (headSpec wsX1_turned ({ frames := 3, cells := 0, slots := 0, locals := 69 })).room s m args below meth c s.heap [] 0 0 (MQ below (vp_Si P) args s 0 0 (fun _ => False)) (F0 m 161 ls [])) (ls : Array Slot), wM_turned_j123 P tc cl tr g B K161 x1 x4 x5 x7 x8 → lv_has ls 9 [(0, .ref h), (1, .int x1), (4, .int x4), (5, .int x5), (7, .int x7), (8, .int x8)] → W p l e (headSpec wsX1_turned ({ frames := 3, cells := 0, slots := 0, locals := 69 })).room s m args below meth c s.heap [] 0 0 (MQ below (vp_Si P) args s 0 0 (fun _ => False)) (F0 m 123 ls []) := by
    intro B K161 x1 x4 x5 x7 x8 hB hK161 ls hw hl
    unfold wM_turned_j123 at hw
    refine lv_iconst (v := (0 : Int32)) hx hb dX1_turned_123 (by decide) ?_
    exact jn_124 _ _ x1 x4 x5 x7 x8 (0 : Int32) hB hK161 ls hw (lv_sub hl [0, 1, 2, 3, 4, 5] rfl)
  have jn_119 : ∀ (B : Int32 → Int32 → Int32 → Prop) (K161 : Int32 → Int32 → Prop) (x1 : Int32) (x4 : Int32) (x5 : Int32) (x7 : Int32) (x8 : Int32) (hB : ∀ (x6 : Int32) (x7 : Int32) (x8 : Int32) (ls : Array Slot), B x6 x7 x8 → lv_has ls 9 [(0, .ref h), (1, .int x1), (4, .int x4), (5, .int x5), (6, .int x6), (7, .int x7), (8, .int x8)] → W p l e (headSpec wsX1_turned ({ frames := 3, cells := 0, slots := 0, locals := 69 })).room s m args below meth c s.heap [] 0 0 (MQ below (vp_Si P) args s 0 0 (fun _ => False)) (F0 m 80 ls [])) (hK161 : ∀ (x6 : Int32) (x7 : Int32) (ls : Array Slot), K161 x6 x7 → lv_has ls 9 [(0, .ref h), (1, .int x1), (4, .int x4), (5, .int x5), (6, .int x6), (7, .int x7)] → W p l e (headSpec wsX1_turned ({ frames := 3, cells := 0, slots := 0, locals := 69 })).room s m args below meth c s.heap [] 0 0 (MQ below (vp_Si P) args s 0 0 (fun _ => False)) (F0 m 161 ls [])) (ls : Array Slot), wM_turned_j119 P tc cl tr g B K161 x1 x4 x5 x7 x8 → lv_has ls 9 [(0, .ref h), (1, .int x1), (4, .int x4), (5, .int x5), (7, .int x7), (8, .int x8)] → W p l e (headSpec wsX1_turned ({ frames := 3, cells := 0, slots := 0, locals := 69 })).room s m args below meth c s.heap [] 0 0 (MQ below (vp_Si P) args s 0 0 (fun _ => False)) (F0 m 119 ls []) := by
    intro B K161 x1 x4 x5 x7 x8 hB hK161 ls hw hl
    unfold wM_turned_j119 at hw
    refine lv_iconst (v := (1 : Int32)) hx hb dX1_turned_119 (by decide) ?_
    refine lv_goto (tgt := 124) hx hb dX1_turned_120 (by decide) ?_
    exact jn_124 _ _ x1 x4 x5 x7 x8 (1 : Int32) hB hK161 ls hw (lv_sub hl [0, 1, 2, 3, 4, 5] rfl)
  have lp_80 : ∀ (x1 : Int32) (x4 : Int32) (x5 : Int32) (K161 : Int32 → Int32 → Prop) (hK161 : ∀ (x6 : Int32) (x7 : Int32) (ls : Array Slot), K161 x6 x7 → lv_has ls 9 [(0, .ref h), (1, .int x1), (4, .int x4), (5, .int x5), (6, .int x6), (7, .int x7)] → W p l e (headSpec wsX1_turned ({ frames := 3, cells := 0, slots := 0, locals := 69 })).room s m args below meth c s.heap [] 0 0 (MQ below (vp_Si P) args s 0 0 (fun _ => False)) (F0 m 161 ls [])), ∀ (n : Nat) (x6 : Int32) (x7 : Int32) (x8 : Int32) (ls : Array Slot), Lp3 (wM_turned_b80 P tc cl tr g x1 x4 x5 K161) n x6 x7 x8 → lv_has ls 9 [(0, .ref h), (1, .int x1), (4, .int x4), (5, .int x5), (6, .int x6), (7, .int x7), (8, .int x8)] → W p l e (headSpec wsX1_turned ({ frames := 3, cells := 0, slots := 0, locals := 69 })).room s m args below meth c s.heap [] 0 0 (MQ below (vp_Si P) args s 0 0 (fun _ => False)) (F0 m 80 ls []) := by
    intro x1 x4 x5 K161 hK161
    intro n
    induction n with
    | zero => intro x6 x7 x8 ls hw; exact False.elim hw
    | succ n hB =>
      intro x6 x7 x8 ls hw hl
      replace hw : wM_turned_b80 P tc cl tr g x1 x4 x5 K161 (Lp3 (wM_turned_b80 P tc cl tr g x1 x4 x5 K161) n) x6 x7 x8 := hw
      unfold wM_turned_b80 at hw
      refine lv_iload hx hb dX1_turned_80 (lv_at hl 6 rfl) ?_
      refine lv_aload_n hx hb dX1_turned_82 rfl (lv_at hl 0 rfl) ?_
      refine va_get (D := (dC, dI)) (ci := 1) (C := RX1) (T := TX1) (N := 9) hx hb hts inw hown hK hP 0 rfl rfl 0 (by decide) f7 (fun _ h9 => h9) rfl dX1_turned_83 ?_
      refine lv_icmp_ge (tgt := 161) hx hb dX1_turned_86 (by decide) (fun hc => ?_) (fun hc => ?_)
      · replace hw := hw.1 hc
        clear hc
        exact hK161 x6 x7 ls hw (lv_sub hl [0, 1, 2, 3, 4, 5] rfl)
      · replace hw := hw.2 hc
        clear hc
        refine lv_iload hx hb dX1_turned_89 (lv_at hl 4 rfl) ?_
        refine lv_if_eq (tgt := 123) hx hb dX1_turned_91 (by decide) (fun hc => ?_) (fun hc => ?_)
        · replace hw := hw.1 hc
          clear hc
          exact jn_123 _ _ x1 x4 x5 x7 x8 hB hK161 ls hw (lv_sub hl [0, 1, 2, 3, 5, 6] rfl)
        · replace hw := hw.2 hc
          clear hc
          refine lv_aload_n hx hb dX1_turned_94 rfl (lv_at hl 0 rfl) ?_
          refine va_get (D := (dC, dI)) (ci := 1) (C := RX1) (T := TX1) (N := 9) hx hb hts inw hown hK hP 0 rfl rfl 1 (by decide) f13 (fun _ h9 => h9) rfl dX1_turned_95 ?_
          refine lv_bipush (v := (8 : Int32)) hx hb dX1_turned_98 (by decide) ?_
          refine lv_iload hx hb dX1_turned_100 (lv_at hl 6 rfl) ?_
          refine lv_imul hx hb dX1_turned_102 ?_
          refine lv_iload hx hb dX1_turned_103 (lv_at hl 3 rfl) ?_
          refine lv_iadd hx hb dX1_turned_105 ?_
          obtain ⟨hin, hw⟩ := hw
          refine va_zald hx hb hK hP 1 0 rfl rfl hin dX1_turned_106 ?_
          refine lv_if_eq (tgt := 119) hx hb dX1_turned_107 (by decide) (fun hc => ?_) (fun hc => ?_)
          · replace hw := hw.1 hc
            clear hc
            exact jn_119 _ _ x1 x4 x5 x7 x8 hB hK161 ls hw (lv_sub hl [0, 1, 2, 3, 5, 6] rfl)
          · replace hw := hw.2 hc
            clear hc
            refine lv_iload_n hx hb dX1_turned_110 rfl (lv_at hl 1 rfl) ?_
            refine lv_iload hx hb dX1_turned_111 (lv_at hl 6 rfl) ?_
            refine vp_callSi (W.runS (As := [.int x1, .int x8]) (rest := []) ⟨hx, hb, hml, hown, hts⟩ (cM_has l x1 x8 _ hw) (va_cwS 2 hts gX1_turned_X1_has rfl rfl rfl (by decide +kernel) ⟨Nat.le_of_ble_eq_true rfl, Nat.le_of_ble_eq_true rfl⟩) ⟨fun a U g mk q => q, fun U hU hW => ⟨rfl, trivial⟩⟩ rfl rfl hl.1 rfl (lv_room (Nat.le_of_ble_eq_true rfl)) dX1_turned_113 ⟨Nat.zero_le _, Nat.zero_le _⟩) (fun r_3 hw => ?_)
            try dsimp only at hw
            refine lv_if_eq (tgt := 123) hx hb dX1_turned_116 (by decide) (fun hc => ?_) (fun hc => ?_)
            · replace hw := hw.1 hc
              clear hc
              exact jn_123 _ _ x1 x4 x5 x7 x8 hB hK161 ls hw (lv_sub hl [0, 1, 2, 3, 5, 6] rfl)
            · replace hw := hw.2 hc
              clear hc
              exact jn_119 _ _ x1 x4 x5 x7 x8 hB hK161 ls hw (lv_sub hl [0, 1, 2, 3, 5, 6] rfl)
  have jn_174 : ∀ (B : Int32 → Int32 → Prop) (x1 : Int32) (x5 : Int32) (y0 : Int32) (y1 : Int32) (hB : ∀ (x4 : Int32) (x5 : Int32) (ls : Array Slot), B x4 x5 → lv_has ls 9 [(0, .ref h), (1, .int x1), (4, .int x4), (5, .int x5)] → W p l e (headSpec wsX1_turned ({ frames := 3, cells := 0, slots := 0, locals := 69 })).room s m args below meth c s.heap [] 0 0 (MQ below (vp_Si P) args s 0 0 (fun _ => False)) (F0 m 46 ls [])) (ls : Array Slot), wM_turned_j174 P tc cl tr g B x1 x5 y0 y1 → lv_has ls 9 [(0, .ref h), (1, .int x1), (5, .int x5)] → W p l e (headSpec wsX1_turned ({ frames := 3, cells := 0, slots := 0, locals := 69 })).room s m args below meth c s.heap [] 0 0 (MQ below (vp_Si P) args s 0 0 (fun _ => False)) (F0 m 174 ls [.int y1, .int y0]) := by
    intro B x1 x5 y0 y1 hB ls hw hl
    unfold wM_turned_j174 at hw
    refine lv_ior hx hb dX1_turned_174 ?_
    refine lv_topi (fun x4_4 hv => ?_)
    replace hw := hw x4_4 hv
    clear hv
    refine lv_istore (lv' := [(4, .int x4_4), (0, .ref h), (1, .int x1), (5, .int x5)]) hx hb dX1_turned_175 hl (by decide) rfl (fun ls hl => ?_)
    refine lv_iinc (v := (x5 + 1)) (lv' := [(5, .int ((x5 + 1))), (4, .int x4_4), (0, .ref h), (1, .int x1)]) hx hb dX1_turned_177 hl (k := 3) rfl rfl (by decide) rfl (fun ls hl => ?_)
    refine lv_goto (tgt := 46) hx hb dX1_turned_180 (by decide) ?_
    exact hB x4_4 (x5 + 1) ls hw (lv_sub hl [2, 3, 1, 0] rfl)
  have jn_69 : ∀ (B : Int32 → Int32 → Prop) (x1 : Int32) (x4 : Int32) (x5 : Int32) (y0 : Int32) (hB : ∀ (x4 : Int32) (x5 : Int32) (ls : Array Slot), B x4 x5 → lv_has ls 9 [(0, .ref h), (1, .int x1), (4, .int x4), (5, .int x5)] → W p l e (headSpec wsX1_turned ({ frames := 3, cells := 0, slots := 0, locals := 69 })).room s m args below meth c s.heap [] 0 0 (MQ below (vp_Si P) args s 0 0 (fun _ => False)) (F0 m 46 ls [])) (ls : Array Slot), wM_turned_j69 P tc cl tr g B x1 x4 x5 y0 → lv_has ls 9 [(0, .ref h), (1, .int x1), (4, .int x4), (5, .int x5)] → W p l e (headSpec wsX1_turned ({ frames := 3, cells := 0, slots := 0, locals := 69 })).room s m args below meth c s.heap [] 0 0 (MQ below (vp_Si P) args s 0 0 (fun _ => False)) (F0 m 69 ls [.int y0]) := by
    intro B x1 x4 x5 y0 hB ls hw hl
    unfold wM_turned_j69 at hw
    refine lv_istore (lv' := [(6, .int y0), (0, .ref h), (1, .int x1), (4, .int x4), (5, .int x5)]) hx hb dX1_turned_69 hl (by decide) rfl (fun ls hl => ?_)
    refine lv_iconst (v := (1 : Int32)) hx hb dX1_turned_71 (by decide) ?_
    refine lv_iload hx hb dX1_turned_72 (lv_at hl 4 rfl) ?_
    refine lv_ishl hx hb dX1_turned_74 ?_
    refine lv_topi (fun x7_5 hv => ?_)
    replace hw := hw x7_5 hv
    clear hv
    refine lv_istore (lv' := [(7, .int x7_5), (6, .int y0), (0, .ref h), (1, .int x1), (4, .int x4), (5, .int x5)]) hx hb dX1_turned_75 hl (by decide) rfl (fun ls hl => ?_)
    refine lv_iconst (v := (0 : Int32)) hx hb dX1_turned_77 (by decide) ?_
    refine lv_istore (lv' := [(8, .int (0 : Int32)), (7, .int x7_5), (6, .int y0), (0, .ref h), (1, .int x1), (4, .int x4), (5, .int x5)]) hx hb dX1_turned_78 hl (by decide) rfl (fun ls hl => ?_)
    obtain ⟨n_8, hw⟩ := hw
    refine lp_80 x1 x4 x5 _ ?_ n_8 y0 x7_5 (0 : Int32) ls hw (lv_sub hl [3, 4, 5, 6, 2, 1, 0] rfl)
    · intro x6_6 x7_7 ls hw hl
      try dsimp only at hw
      refine lv_iload hx hb dX1_turned_161 (lv_at hl 2 rfl) ?_
      refine lv_iload hx hb dX1_turned_163 (lv_at hl 4 rfl) ?_
      refine lv_if_eq (tgt := 173) hx hb dX1_turned_165 (by decide) (fun hc => ?_) (fun hc => ?_)
      · replace hw := hw.1 hc
        clear hc
        refine lv_iconst (v := (0 : Int32)) hx hb dX1_turned_173 (by decide) ?_
        exact jn_174 _ x1 x5 x4 (0 : Int32) hB ls hw (lv_sub hl [0, 1, 3] rfl)
      · replace hw := hw.2 hc
        clear hc
        refine lv_iload hx hb dX1_turned_168 (lv_at hl 5 rfl) ?_
        refine lv_goto (tgt := 174) hx hb dX1_turned_170 (by decide) ?_
        exact jn_174 _ x1 x5 x4 x7_7 hB ls hw (lv_sub hl [0, 1, 3] rfl)
  have lp_46 : ∀ (x1 : Int32), ∀ (n : Nat) (x4 : Int32) (x5 : Int32) (ls : Array Slot), Lp2 (wM_turned_b46 P tc cl tr g x1) n x4 x5 → lv_has ls 9 [(0, .ref h), (1, .int x1), (4, .int x4), (5, .int x5)] → W p l e (headSpec wsX1_turned ({ frames := 3, cells := 0, slots := 0, locals := 69 })).room s m args below meth c s.heap [] 0 0 (MQ below (vp_Si P) args s 0 0 (fun _ => False)) (F0 m 46 ls []) := by
    intro x1
    intro n
    induction n with
    | zero => intro x4 x5 ls hw; exact False.elim hw
    | succ n hB =>
      intro x4 x5 ls hw hl
      replace hw : wM_turned_b46 P tc cl tr g x1 (Lp2 (wM_turned_b46 P tc cl tr g x1) n) x4 x5 := hw
      unfold wM_turned_b46 at hw
      refine lv_iload hx hb dX1_turned_46 (lv_at hl 3 rfl) ?_
      refine lv_aload_n hx hb dX1_turned_48 rfl (lv_at hl 0 rfl) ?_
      refine va_get (D := (dC, dI)) (ci := 1) (C := RX1) (T := TX1) (N := 9) hx hb hts inw hown hK hP 0 rfl rfl 0 (by decide) f7 (fun _ h9 => h9) rfl dX1_turned_49 ?_
      refine lv_icmp_ge (tgt := 183) hx hb dX1_turned_52 (by decide) (fun hc => ?_) (fun hc => ?_)
      · replace hw := hw.1 hc
        clear hc
        refine lv_iload hx hb dX1_turned_183 (lv_at hl 2 rfl) ?_
        exact W.iret (v := x4) hx hb hr (fun t ht hW => ⟨_, rfl, hw, ht⟩) (fun q h => absurd h List.not_mem_nil) dX1_turned_185
      · replace hw := hw.2 hc
        clear hc
        refine lv_iload_n hx hb dX1_turned_55 rfl (lv_at hl 1 rfl) ?_
        refine lv_iload hx hb dX1_turned_56 (lv_at hl 3 rfl) ?_
        refine vp_callSi (W.runS (As := [.int x1, .int x5]) (rest := []) ⟨hx, hb, hml, hown, hts⟩ (cM_has l x1 x5 _ hw) (va_cwS 2 hts gX1_turned_X1_has rfl rfl rfl (by decide +kernel) ⟨Nat.le_of_ble_eq_true rfl, Nat.le_of_ble_eq_true rfl⟩) ⟨fun a U g mk q => q, fun U hU hW => ⟨rfl, trivial⟩⟩ rfl rfl hl.1 rfl (lv_room (Nat.le_of_ble_eq_true rfl)) dX1_turned_58 ⟨Nat.zero_le _, Nat.zero_le _⟩) (fun r_9 hw => ?_)
        try dsimp only at hw
        refine lv_if_ne (tgt := 68) hx hb dX1_turned_61 (by decide) (fun hc => ?_) (fun hc => ?_)
        · replace hw := hw.1 hc
          clear hc
          refine lv_iconst (v := (0 : Int32)) hx hb dX1_turned_68 (by decide) ?_
          exact jn_69 _ x1 x4 x5 (0 : Int32) hB ls hw (lv_sub hl [0, 1, 2, 3] rfl)
        · replace hw := hw.2 hc
          clear hc
          refine lv_iconst (v := (1 : Int32)) hx hb dX1_turned_64 (by decide) ?_
          refine lv_goto (tgt := 69) hx hb dX1_turned_65 (by decide) ?_
          exact jn_69 _ x1 x4 x5 (1 : Int32) hB ls hw (lv_sub hl [0, 1, 2, 3] rfl)
  subst hargs
  unfold wM_turned at hw
  have hl := lv_entry ([.ref h, .int x1, .int x2]) (n := 9) (Nat.le_of_ble_eq_true rfl)
  rw [lg_entry_eq]
  generalize (lg_sl ([.ref h, .int x1, .int x2]) ++ List.replicate (9 - (lg_sl ([.ref h, .int x1, .int x2])).length) Slot.unset).toArray = ls at hl ⊢
  have hl : lv_has ls 9 [(0, .ref h), (1, .int x1), (2, .int x2)] := hl
  refine lv_iload_n hx hb dX1_turned_0 rfl (lv_at hl 1 rfl) ?_
  refine lv_istore_n (lv' := [(3, .int x1), (0, .ref h), (1, .int x1), (2, .int x2)]) hx hb dX1_turned_1 rfl hl (by decide) rfl (fun ls hl => ?_)
  refine lv_iload_n hx hb dX1_turned_2 rfl (lv_at hl 3 rfl) ?_
  refine lv_iconst (v := (1 : Int32)) hx hb dX1_turned_3 (by decide) ?_
  refine lv_icmp_ne (tgt := 40) hx hb dX1_turned_4 (by decide) (fun hc => ?_) (fun hc => ?_)
  · replace hw := hw.1 hc
    clear hc
    refine lv_iconst (v := (0 : Int32)) hx hb dX1_turned_40 (by decide) ?_
    refine lv_istore (lv' := [(4, .int (0 : Int32)), (3, .int x1), (0, .ref h), (1, .int x1), (2, .int x2)]) hx hb dX1_turned_41 hl (by decide) rfl (fun ls hl => ?_)
    refine lv_iconst (v := (0 : Int32)) hx hb dX1_turned_43 (by decide) ?_
    refine lv_istore (lv' := [(5, .int (0 : Int32)), (4, .int (0 : Int32)), (3, .int x1), (0, .ref h), (1, .int x1), (2, .int x2)]) hx hb dX1_turned_44 hl (by decide) rfl (fun ls hl => ?_)
    obtain ⟨n_10, hw⟩ := hw
    exact lp_46 x1 n_10 (0 : Int32) (0 : Int32) ls hw (lv_sub hl [3, 4, 1, 0] rfl)
  · replace hw := hw.2 hc
    clear hc
    refine lv_iconst (v := (0 : Int32)) hx hb dX1_turned_7 (by decide) ?_
    refine lv_istore (lv' := [(4, .int (0 : Int32)), (3, .int x1), (0, .ref h), (1, .int x1), (2, .int x2)]) hx hb dX1_turned_8 hl (by decide) rfl (fun ls hl => ?_)
    obtain ⟨n_11, hw⟩ := hw
    exact lp_10 n_11 x1 (0 : Int32) ls hw (lv_sub hl [2, 1, 0] rfl)
-- X1_isKind
set_option maxHeartbeats 4000000 in
set_option maxRecDepth 100000 in
theorem cM_isKind (l : Launch) (x0 : Int32) (P : Int32 → Prop) (hw : wM_isKind P x0) : Met l yX1_isKind wsX1_isKind ({ frames := 1, cells := 0, slots := 0, locals := 22 }) (va_Pc [.int x0] (fun _ => True)) (vp_Si P) 0 0 (fun _ => False) := by
  refine Met.ofW (cc := cX1_isKind) (maxL := 1) (ret := (some .boolean)) (by decide) rfl ?_
  intro p e s m args below meth c s₁ B0 hml hv
  obtain ⟨hargs, -⟩ := hv
  have hx := B0.exec
  have hb := B0.bytes
  have hr := B0.returns
  have hts := atoms_spec (ws := wsX1_isKind) B0.pre
  have hown : s.vm.findClass RX1 = some m.cls := findClass_of_methodNamed B0.named
  have hlocks := B0.notSynchronized
  subst hargs
  unfold wM_isKind at hw
  have hl := lv_entry ([.int x0]) (n := 1) (Nat.le_of_ble_eq_true rfl)
  rw [lg_entry_eq]
  generalize (lg_sl ([.int x0]) ++ List.replicate (1 - (lg_sl ([.int x0])).length) Slot.unset).toArray = ls at hl ⊢
  have hl : lv_has ls 1 [(0, .int x0)] := hl
  refine lv_iload_n hx hb dX1_isKind_0 rfl (lv_at hl 0 rfl) ?_
  refine lv_iconst (v := (0 : Int32)) hx hb dX1_isKind_1 (by decide) ?_
  refine lv_iconst (v := (1 : Int32)) hx hb dX1_isKind_2 (by decide) ?_
  refine vp_callSi (W.runS (As := [.int x0, .int (0 : Int32), .int (1 : Int32)]) (rest := []) ⟨hx, hb, hml, hown, hts⟩ (cM_in l x0 (0 : Int32) (1 : Int32) _ hw) (va_cwS 3 hts gX1_isKind_X1_in rfl rfl rfl (by decide +kernel) ⟨Nat.le_of_ble_eq_true rfl, Nat.le_of_ble_eq_true rfl⟩) ⟨fun a U g mk q => q, fun U hU hW => ⟨rfl, trivial⟩⟩ rfl rfl hl.1 rfl (lv_room (Nat.le_of_ble_eq_true rfl)) dX1_isKind_3 ⟨Nat.zero_le _, Nat.zero_le _⟩) (fun r_1 hw => ?_)
  try dsimp only at hw
  obtain ⟨hisb, hw⟩ := hw
  exact W.zret (v := r_1) hx hb hr (isB_nar hisb) (fun t ht hW => ⟨_, rfl, hw, ht⟩) (fun q h => absurd h List.not_mem_nil) dX1_isKind_6
-- X1_turn
set_option maxHeartbeats 4000000 in
set_option maxRecDepth 100000 in
theorem cM_turn (l : Launch) (dC : Nat → ClassId) (dI : Nat → Nat → Nat) (h : Nat) (ad : Nat → Nat) (ca : Nat → ClassId) (tc cl : Int32) (tr : Int64) (g : Sg) (x1 : Int32) (x2 : Int32) (x3 : Int32) (P : Int32 → Prop) (hw : wM_turn P tc cl tr g x1 x2 x3) : Met l yX1_turn wsX1_turn ({ frames := 4, cells := 0, slots := 0, locals := 97 }) (va_Pc [.ref h, .int x1, .int x2, .int x3] (fun U => va_P (dC, dI) vwCl (ML h ad ca tc cl tr g) U.heap ∧ va_K (dC, dI) vwCl (MT ca) U)) (vp_Si P) 0 0 (fun _ => False) := by
  refine Met.ofW (cc := cX1_turn) (maxL := 6) (ret := (some .int)) (by decide) rfl ?_
  intro p e s m args below meth c s₁ B0 hml hv
  obtain ⟨hargs, hP, hK⟩ := hv
  have hx := B0.exec
  have hb := B0.bytes
  have hr := B0.returns
  have hts := atoms_spec (ws := wsX1_turn) B0.pre
  have hown : s.vm.findClass RX1 = some m.cls := findClass_of_methodNamed B0.named
  have hlocks := B0.notSynchronized
  have inw : ∀ w ∈ wsX10, w ∈ wsX1_turn := fun w h => List.mem_cons_of_mem _ (List.mem_append_right _ h)
  have lp_34 : ∀ (x2 : Int32) (x3 : Int32), ∀ (n : Nat) (x4 : Int32) (x5 : Int32) (ls : Array Slot), Lp2 (wM_turn_b34 P tc cl tr g x2 x3) n x4 x5 → lv_has ls 6 [(0, .ref h), (2, .int x2), (3, .int x3), (4, .int x4), (5, .int x5)] → W p l e (headSpec wsX1_turn ({ frames := 4, cells := 0, slots := 0, locals := 97 })).room s m args below meth c s.heap [] 0 0 (MQ below (vp_Si P) args s 0 0 (fun _ => False)) (F0 m 34 ls []) := by
    intro x2 x3
    intro n
    induction n with
    | zero => intro x4 x5 ls hw; exact False.elim hw
    | succ n hB =>
      intro x4 x5 ls hw hl
      replace hw : wM_turn_b34 P tc cl tr g x2 x3 (Lp2 (wM_turn_b34 P tc cl tr g x2 x3) n) x4 x5 := hw
      unfold wM_turn_b34 at hw
      refine lv_iload hx hb dX1_turn_34 (lv_at hl 4 rfl) ?_
      refine lv_iload_n hx hb dX1_turn_36 rfl (lv_at hl 2 rfl) ?_
      refine lv_icmp_ge (tgt := 55) hx hb dX1_turn_37 (by decide) (fun hc => ?_) (fun hc => ?_)
      · replace hw := hw.1 hc
        clear hc
        refine lv_iload hx hb dX1_turn_55 (lv_at hl 3 rfl) ?_
        exact W.iret (v := x4) hx hb hr (fun t ht hW => ⟨_, rfl, hw, ht⟩) (fun q h => absurd h List.not_mem_nil) dX1_turn_57
      · replace hw := hw.2 hc
        clear hc
        refine lv_aload_n hx hb dX1_turn_40 rfl (lv_at hl 0 rfl) ?_
        refine lv_iload hx hb dX1_turn_41 (lv_at hl 3 rfl) ?_
        refine lv_iload_n hx hb dX1_turn_43 rfl (lv_at hl 1 rfl) ?_
        refine vp_callSi (W.runV (As := [.int x4, .int x2]) (rest := []) ⟨hx, hb, hml, hown, hts⟩ (cM_turned l dC dI h ad ca tc cl tr g x4 x2 _ hw) (cwV 2 hts gX1_turn_X1_turned rfl rfl rfl (by decide +kernel) ⟨Nat.le_of_ble_eq_true rfl, Nat.le_of_ble_eq_true rfl⟩) ⟨fun a U g mk q => by obtain ⟨q0, qP, qK⟩ := q; exact ⟨q0, qP, va_K.moved (u := U) (U := U.calling g mk a) (Vm.Alike.refl U.vm) qK⟩, va_recv hK hP (ci := 1) (q0 := 0) rfl rfl, fun U hU hW => ⟨rfl, by rw [hU]; exact hP, va_K.moved hW.alike hK⟩⟩ rfl rfl hl.1 rfl (lv_room (Nat.le_of_ble_eq_true rfl)) dX1_turn_44 ⟨Nat.zero_le _, Nat.zero_le _⟩) (fun r_1 hw => ?_)
        try dsimp only at hw
        refine lv_istore (lv' := [(4, .int r_1), (0, .ref h), (2, .int x2), (3, .int x3), (5, .int x5)]) hx hb dX1_turn_47 hl (by decide) rfl (fun ls hl => ?_)
        refine lv_iinc (v := (x5 + 1)) (lv' := [(5, .int ((x5 + 1))), (4, .int r_1), (0, .ref h), (2, .int x2), (3, .int x3)]) hx hb dX1_turn_49 hl (k := 4) rfl rfl (by decide) rfl (fun ls hl => ?_)
        refine lv_goto (tgt := 34) hx hb dX1_turn_52 (by decide) ?_
        exact hB r_1 (x5 + 1) ls hw (lv_sub hl [2, 3, 4, 1, 0] rfl)
  subst hargs
  unfold wM_turn at hw
  have hl := lv_entry ([.ref h, .int x1, .int x2, .int x3]) (n := 6) (Nat.le_of_ble_eq_true rfl)
  rw [lg_entry_eq]
  generalize (lg_sl ([.ref h, .int x1, .int x2, .int x3]) ++ List.replicate (6 - (lg_sl ([.ref h, .int x1, .int x2, .int x3])).length) Slot.unset).toArray = ls at hl ⊢
  have hl : lv_has ls 6 [(0, .ref h), (1, .int x1), (2, .int x2), (3, .int x3)] := hl
  refine lv_aload_n hx hb dX1_turn_0 rfl (lv_at hl 0 rfl) ?_
  refine lv_iload_n hx hb dX1_turn_1 rfl (lv_at hl 1 rfl) ?_
  refine vp_callSi (W.runV (As := [.int x1]) (rest := []) ⟨hx, hb, hml, hown, hts⟩ (cM_isHeap l dC dI h ad ca tc cl tr g x1 _ hw) (cwV 1 hts gX1_turn_X1_isHeap rfl rfl rfl (by decide +kernel) ⟨Nat.le_of_ble_eq_true rfl, Nat.le_of_ble_eq_true rfl⟩) ⟨fun a U g mk q => by obtain ⟨q0, qP, qK⟩ := q; exact ⟨q0, qP, va_K.moved (u := U) (U := U.calling g mk a) (Vm.Alike.refl U.vm) qK⟩, va_recv hK hP (ci := 1) (q0 := 0) rfl rfl, fun U hU hW => ⟨rfl, by rw [hU]; exact hP, va_K.moved hW.alike hK⟩⟩ rfl rfl hl.1 rfl (lv_room (Nat.le_of_ble_eq_true rfl)) dX1_turn_2 ⟨Nat.zero_le _, Nat.zero_le _⟩) (fun r_2 hw => ?_)
  try dsimp only at hw
  refine lv_if_eq (tgt := 26) hx hb dX1_turn_5 (by decide) (fun hc => ?_) (fun hc => ?_)
  · replace hw := hw.1 hc
    clear hc
    refine lv_iconst (v := (-1 : Int32)) hx hb dX1_turn_26 (by decide) ?_
    exact W.iret (v := (-1 : Int32)) hx hb hr (fun t ht hW => ⟨_, rfl, hw, ht⟩) (fun q h => absurd h List.not_mem_nil) dX1_turn_27
  · replace hw := hw.2 hc
    clear hc
    refine lv_iload_n hx hb dX1_turn_8 rfl (lv_at hl 2 rfl) ?_
    refine vp_callSi (W.runS (As := [.int x2]) (rest := []) ⟨hx, hb, hml, hown, hts⟩ (cM_isKind l x2 _ hw) (va_cwS 1 hts gX1_turn_X1_isKind rfl rfl rfl (by decide +kernel) ⟨Nat.le_of_ble_eq_true rfl, Nat.le_of_ble_eq_true rfl⟩) ⟨fun a U g mk q => q, fun U hU hW => ⟨rfl, trivial⟩⟩ rfl rfl hl.1 rfl (lv_room (Nat.le_of_ble_eq_true rfl)) dX1_turn_9 ⟨Nat.zero_le _, Nat.zero_le _⟩) (fun r_3 hw => ?_)
    try dsimp only at hw
    refine lv_if_eq (tgt := 26) hx hb dX1_turn_12 (by decide) (fun hc => ?_) (fun hc => ?_)
    · replace hw := hw.1 hc
      clear hc
      refine lv_iconst (v := (-1 : Int32)) hx hb dX1_turn_26 (by decide) ?_
      exact W.iret (v := (-1 : Int32)) hx hb hr (fun t ht hW => ⟨_, rfl, hw, ht⟩) (fun q h => absurd h List.not_mem_nil) dX1_turn_27
    · replace hw := hw.2 hc
      clear hc
      refine lv_iload_n hx hb dX1_turn_15 rfl (lv_at hl 3 rfl) ?_
      refine lv_iconst (v := (0 : Int32)) hx hb dX1_turn_16 (by decide) ?_
      refine lv_sipush (v := (1000 : Int32)) hx hb dX1_turn_17 (by decide) ?_
      refine vp_callSi (W.runS (As := [.int x3, .int (0 : Int32), .int (1000 : Int32)]) (rest := []) ⟨hx, hb, hml, hown, hts⟩ (cM_in l x3 (0 : Int32) (1000 : Int32) _ hw) (va_cwS 3 hts gX1_turn_X1_in rfl rfl rfl (by decide +kernel) ⟨Nat.le_of_ble_eq_true rfl, Nat.le_of_ble_eq_true rfl⟩) ⟨fun a U g mk q => q, fun U hU hW => ⟨rfl, trivial⟩⟩ rfl rfl hl.1 rfl (lv_room (Nat.le_of_ble_eq_true rfl)) dX1_turn_20 ⟨Nat.zero_le _, Nat.zero_le _⟩) (fun r_4 hw => ?_)
      try dsimp only at hw
      refine lv_if_ne (tgt := 28) hx hb dX1_turn_23 (by decide) (fun hc => ?_) (fun hc => ?_)
      · replace hw := hw.1 hc
        clear hc
        refine lv_iload_n hx hb dX1_turn_28 rfl (lv_at hl 1 rfl) ?_
        refine lv_istore (lv' := [(4, .int x1), (0, .ref h), (1, .int x1), (2, .int x2), (3, .int x3)]) hx hb dX1_turn_29 hl (by decide) rfl (fun ls hl => ?_)
        refine lv_iconst (v := (0 : Int32)) hx hb dX1_turn_31 (by decide) ?_
        refine lv_istore (lv' := [(5, .int (0 : Int32)), (4, .int x1), (0, .ref h), (1, .int x1), (2, .int x2), (3, .int x3)]) hx hb dX1_turn_32 hl (by decide) rfl (fun ls hl => ?_)
        obtain ⟨n_5, hw⟩ := hw
        exact lp_34 x2 x3 n_5 x1 (0 : Int32) ls hw (lv_sub hl [2, 4, 5, 1, 0] rfl)
      · replace hw := hw.2 hc
        clear hc
        refine lv_iconst (v := (-1 : Int32)) hx hb dX1_turn_26 (by decide) ?_
        exact W.iret (v := (-1 : Int32)) hx hb hr (fun t ht hW => ⟨_, rfl, hw, ht⟩) (fun q h => absurd h List.not_mem_nil) dX1_turn_27
-- X1_orbitOf
set_option maxHeartbeats 4000000 in
set_option maxRecDepth 100000 in
theorem cM_orbitOf (l : Launch) (dC : Nat → ClassId) (dI : Nat → Nat → Nat) (h : Nat) (ad : Nat → Nat) (ca : Nat → ClassId) (tc cl : Int32) (tr : Int64) (g : Sg) (x1 : Int32) (x2 : Int32) (P : Int32 → Prop) (hw : wM_orbitOf P tc cl tr g x1 x2) : Met l yX1_orbitOf wsX1_orbitOf ({ frames := 4, cells := 0, slots := 0, locals := 97 }) (va_Pc [.ref h, .int x1, .int x2] (fun U => va_P (dC, dI) vwCl (ML h ad ca tc cl tr g) U.heap ∧ va_K (dC, dI) vwCl (MT ca) U)) (vp_Si P) 0 0 (fun _ => False) := by
  refine Met.ofW (cc := cX1_orbitOf) (maxL := 5) (ret := (some .int)) (by decide) rfl ?_
  intro p e s m args below meth c s₁ B0 hml hv
  obtain ⟨hargs, hP, hK⟩ := hv
  have hx := B0.exec
  have hb := B0.bytes
  have hr := B0.returns
  have hts := atoms_spec (ws := wsX1_orbitOf) B0.pre
  have hown : s.vm.findClass RX1 = some m.cls := findClass_of_methodNamed B0.named
  have hlocks := B0.notSynchronized
  have inw : ∀ w ∈ wsX10, w ∈ wsX1_orbitOf := fun w h => List.mem_cons_of_mem _ (List.mem_append_right _ h)
  have lp_10 : ∀ (x1 : Int32) (x2 : Int32), ∀ (n : Nat) (x3 : Int32) (x4 : Int32) (ls : Array Slot), Lp2 (wM_orbitOf_b10 P tc cl tr g x1 x2) n x3 x4 → lv_has ls 5 [(0, .ref h), (1, .int x1), (2, .int x2), (3, .int x3), (4, .int x4)] → W p l e (headSpec wsX1_orbitOf ({ frames := 4, cells := 0, slots := 0, locals := 97 })).room s m args below meth c s.heap [] 0 0 (MQ below (vp_Si P) args s 0 0 (fun _ => False)) (F0 m 10 ls []) := by
    intro x1 x2
    intro n
    induction n with
    | zero => intro x3 x4 ls hw; exact False.elim hw
    | succ n hB =>
      intro x3 x4 ls hw hl
      replace hw : wM_orbitOf_b10 P tc cl tr g x1 x2 (Lp2 (wM_orbitOf_b10 P tc cl tr g x1 x2) n) x3 x4 := hw
      unfold wM_orbitOf_b10 at hw
      refine lv_iload hx hb dX1_orbitOf_10 (lv_at hl 4 rfl) ?_
      refine lv_iload_n hx hb dX1_orbitOf_12 rfl (lv_at hl 1 rfl) ?_
      refine lv_icmp_eq (tgt := 31) hx hb dX1_orbitOf_13 (by decide) (fun hc => ?_) (fun hc => ?_)
      · replace hw := hw.1 hc
        clear hc
        refine lv_iload_n hx hb dX1_orbitOf_31 rfl (lv_at hl 3 rfl) ?_
        exact W.iret (v := x3) hx hb hr (fun t ht hW => ⟨_, rfl, hw, ht⟩) (fun q h => absurd h List.not_mem_nil) dX1_orbitOf_32
      · replace hw := hw.2 hc
        clear hc
        refine lv_iinc (v := (x3 + 1)) (lv' := [(3, .int ((x3 + 1))), (0, .ref h), (1, .int x1), (2, .int x2), (4, .int x4)]) hx hb dX1_orbitOf_16 hl (k := 3) rfl rfl (by decide) rfl (fun ls hl => ?_)
        refine lv_aload_n hx hb dX1_orbitOf_19 rfl (lv_at hl 1 rfl) ?_
        refine lv_iload hx hb dX1_orbitOf_20 (lv_at hl 4 rfl) ?_
        refine lv_iload_n hx hb dX1_orbitOf_22 rfl (lv_at hl 3 rfl) ?_
        refine vp_callSi (W.runV (As := [.int x4, .int x2]) (rest := []) ⟨hx, hb, hml, hown, hts⟩ (cM_turned l dC dI h ad ca tc cl tr g x4 x2 _ hw) (cwV 2 hts gX1_orbitOf_X1_turned rfl rfl rfl (by decide +kernel) ⟨Nat.le_of_ble_eq_true rfl, Nat.le_of_ble_eq_true rfl⟩) ⟨fun a U g mk q => by obtain ⟨q0, qP, qK⟩ := q; exact ⟨q0, qP, va_K.moved (u := U) (U := U.calling g mk a) (Vm.Alike.refl U.vm) qK⟩, va_recv hK hP (ci := 1) (q0 := 0) rfl rfl, fun U hU hW => ⟨rfl, by rw [hU]; exact hP, va_K.moved hW.alike hK⟩⟩ rfl rfl hl.1 rfl (lv_room (Nat.le_of_ble_eq_true rfl)) dX1_orbitOf_23 ⟨Nat.zero_le _, Nat.zero_le _⟩) (fun r_1 hw => ?_)
        try dsimp only at hw
        refine lv_istore (lv' := [(4, .int r_1), (3, .int ((x3 + 1))), (0, .ref h), (1, .int x1), (2, .int x2)]) hx hb dX1_orbitOf_26 hl (by decide) rfl (fun ls hl => ?_)
        refine lv_goto (tgt := 10) hx hb dX1_orbitOf_28 (by decide) ?_
        exact hB (x3 + 1) r_1 ls hw (lv_sub hl [2, 3, 4, 1, 0] rfl)
  subst hargs
  unfold wM_orbitOf at hw
  have hl := lv_entry ([.ref h, .int x1, .int x2]) (n := 5) (Nat.le_of_ble_eq_true rfl)
  rw [lg_entry_eq]
  generalize (lg_sl ([.ref h, .int x1, .int x2]) ++ List.replicate (5 - (lg_sl ([.ref h, .int x1, .int x2])).length) Slot.unset).toArray = ls at hl ⊢
  have hl : lv_has ls 5 [(0, .ref h), (1, .int x1), (2, .int x2)] := hl
  refine lv_iconst (v := (1 : Int32)) hx hb dX1_orbitOf_0 (by decide) ?_
  refine lv_istore_n (lv' := [(3, .int (1 : Int32)), (0, .ref h), (1, .int x1), (2, .int x2)]) hx hb dX1_orbitOf_1 rfl hl (by decide) rfl (fun ls hl => ?_)
  refine lv_aload_n hx hb dX1_orbitOf_2 rfl (lv_at hl 1 rfl) ?_
  refine lv_iload_n hx hb dX1_orbitOf_3 rfl (lv_at hl 2 rfl) ?_
  refine lv_iload_n hx hb dX1_orbitOf_4 rfl (lv_at hl 3 rfl) ?_
  refine vp_callSi (W.runV (As := [.int x1, .int x2]) (rest := []) ⟨hx, hb, hml, hown, hts⟩ (cM_turned l dC dI h ad ca tc cl tr g x1 x2 _ hw) (cwV 2 hts gX1_orbitOf_X1_turned rfl rfl rfl (by decide +kernel) ⟨Nat.le_of_ble_eq_true rfl, Nat.le_of_ble_eq_true rfl⟩) ⟨fun a U g mk q => by obtain ⟨q0, qP, qK⟩ := q; exact ⟨q0, qP, va_K.moved (u := U) (U := U.calling g mk a) (Vm.Alike.refl U.vm) qK⟩, va_recv hK hP (ci := 1) (q0 := 0) rfl rfl, fun U hU hW => ⟨rfl, by rw [hU]; exact hP, va_K.moved hW.alike hK⟩⟩ rfl rfl hl.1 rfl (lv_room (Nat.le_of_ble_eq_true rfl)) dX1_orbitOf_5 ⟨Nat.zero_le _, Nat.zero_le _⟩) (fun r_2 hw => ?_)
  try dsimp only at hw
  refine lv_istore (lv' := [(4, .int r_2), (3, .int (1 : Int32)), (0, .ref h), (1, .int x1), (2, .int x2)]) hx hb dX1_orbitOf_8 hl (by decide) rfl (fun ls hl => ?_)
  obtain ⟨n_3, hw⟩ := hw
  exact lp_10 x1 x2 n_3 (1 : Int32) r_2 ls hw (lv_sub hl [2, 3, 4, 1, 0] rfl)
-- X1_orbit
set_option maxHeartbeats 4000000 in
set_option maxRecDepth 100000 in
theorem cM_orbit (l : Launch) (dC : Nat → ClassId) (dI : Nat → Nat → Nat) (h : Nat) (ad : Nat → Nat) (ca : Nat → ClassId) (tc cl : Int32) (tr : Int64) (g : Sg) (x1 : Int32) (x2 : Int32) (P : Int32 → Prop) (hw : wM_orbit P tc cl tr g x1 x2) : Met l yX1_orbit wsX1_orbit ({ frames := 5, cells := 0, slots := 0, locals := 121 }) (va_Pc [.ref h, .int x1, .int x2] (fun U => va_P (dC, dI) vwCl (ML h ad ca tc cl tr g) U.heap ∧ va_K (dC, dI) vwCl (MT ca) U)) (vp_Si P) 0 0 (fun _ => False) := by
  refine Met.ofW (cc := cX1_orbit) (maxL := 3) (ret := (some .int)) (by decide) rfl ?_
  intro p e s m args below meth c s₁ B0 hml hv
  obtain ⟨hargs, hP, hK⟩ := hv
  have hx := B0.exec
  have hb := B0.bytes
  have hr := B0.returns
  have hts := atoms_spec (ws := wsX1_orbit) B0.pre
  have hown : s.vm.findClass RX1 = some m.cls := findClass_of_methodNamed B0.named
  have hlocks := B0.notSynchronized
  have inw : ∀ w ∈ wsX10, w ∈ wsX1_orbit := fun w h => List.mem_cons_of_mem _ (List.mem_append_right _ h)
  subst hargs
  unfold wM_orbit at hw
  have hl := lv_entry ([.ref h, .int x1, .int x2]) (n := 3) (Nat.le_of_ble_eq_true rfl)
  rw [lg_entry_eq]
  generalize (lg_sl ([.ref h, .int x1, .int x2]) ++ List.replicate (3 - (lg_sl ([.ref h, .int x1, .int x2])).length) Slot.unset).toArray = ls at hl ⊢
  have hl : lv_has ls 3 [(0, .ref h), (1, .int x1), (2, .int x2)] := hl
  refine lv_aload_n hx hb dX1_orbit_0 rfl (lv_at hl 0 rfl) ?_
  refine lv_iload_n hx hb dX1_orbit_1 rfl (lv_at hl 1 rfl) ?_
  refine vp_callSi (W.runV (As := [.int x1]) (rest := []) ⟨hx, hb, hml, hown, hts⟩ (cM_isHeap l dC dI h ad ca tc cl tr g x1 _ hw) (cwV 1 hts gX1_orbit_X1_isHeap rfl rfl rfl (by decide +kernel) ⟨Nat.le_of_ble_eq_true rfl, Nat.le_of_ble_eq_true rfl⟩) ⟨fun a U g mk q => by obtain ⟨q0, qP, qK⟩ := q; exact ⟨q0, qP, va_K.moved (u := U) (U := U.calling g mk a) (Vm.Alike.refl U.vm) qK⟩, va_recv hK hP (ci := 1) (q0 := 0) rfl rfl, fun U hU hW => ⟨rfl, by rw [hU]; exact hP, va_K.moved hW.alike hK⟩⟩ rfl rfl hl.1 rfl (lv_room (Nat.le_of_ble_eq_true rfl)) dX1_orbit_2 ⟨Nat.zero_le _, Nat.zero_le _⟩) (fun r_1 hw => ?_)
  try dsimp only at hw
  refine lv_if_eq (tgt := 24) hx hb dX1_orbit_5 (by decide) (fun hc => ?_) (fun hc => ?_)
  · replace hw := hw.1 hc
    clear hc
    refine lv_iconst (v := (-1 : Int32)) hx hb dX1_orbit_24 (by decide) ?_
    exact W.iret (v := (-1 : Int32)) hx hb hr (fun t ht hW => ⟨_, rfl, hw, ht⟩) (fun q h => absurd h List.not_mem_nil) dX1_orbit_25
  · replace hw := hw.2 hc
    clear hc
    refine lv_iload_n hx hb dX1_orbit_8 rfl (lv_at hl 2 rfl) ?_
    refine vp_callSi (W.runS (As := [.int x2]) (rest := []) ⟨hx, hb, hml, hown, hts⟩ (cM_isKind l x2 _ hw) (va_cwS 1 hts gX1_orbit_X1_isKind rfl rfl rfl (by decide +kernel) ⟨Nat.le_of_ble_eq_true rfl, Nat.le_of_ble_eq_true rfl⟩) ⟨fun a U g mk q => q, fun U hU hW => ⟨rfl, trivial⟩⟩ rfl rfl hl.1 rfl (lv_room (Nat.le_of_ble_eq_true rfl)) dX1_orbit_9 ⟨Nat.zero_le _, Nat.zero_le _⟩) (fun r_2 hw => ?_)
    try dsimp only at hw
    refine lv_if_eq (tgt := 24) hx hb dX1_orbit_12 (by decide) (fun hc => ?_) (fun hc => ?_)
    · replace hw := hw.1 hc
      clear hc
      refine lv_iconst (v := (-1 : Int32)) hx hb dX1_orbit_24 (by decide) ?_
      exact W.iret (v := (-1 : Int32)) hx hb hr (fun t ht hW => ⟨_, rfl, hw, ht⟩) (fun q h => absurd h List.not_mem_nil) dX1_orbit_25
    · replace hw := hw.2 hc
      clear hc
      refine lv_aload_n hx hb dX1_orbit_15 rfl (lv_at hl 0 rfl) ?_
      refine lv_iload_n hx hb dX1_orbit_16 rfl (lv_at hl 1 rfl) ?_
      refine lv_iload_n hx hb dX1_orbit_17 rfl (lv_at hl 2 rfl) ?_
      refine vp_callSi (W.runV (As := [.int x1, .int x2]) (rest := []) ⟨hx, hb, hml, hown, hts⟩ (cM_orbitOf l dC dI h ad ca tc cl tr g x1 x2 _ hw) (cwV 2 hts gX1_orbit_X1_orbitOf rfl rfl rfl (by decide +kernel) ⟨Nat.le_of_ble_eq_true rfl, Nat.le_of_ble_eq_true rfl⟩) ⟨fun a U g mk q => by obtain ⟨q0, qP, qK⟩ := q; exact ⟨q0, qP, va_K.moved (u := U) (U := U.calling g mk a) (Vm.Alike.refl U.vm) qK⟩, va_recv hK hP (ci := 1) (q0 := 0) rfl rfl, fun U hU hW => ⟨rfl, by rw [hU]; exact hP, va_K.moved hW.alike hK⟩⟩ rfl rfl hl.1 rfl (lv_room (Nat.le_of_ble_eq_true rfl)) dX1_orbit_18 ⟨Nat.zero_le _, Nat.zero_le _⟩) (fun r_3 hw => ?_)
      try dsimp only at hw
      refine lv_goto (tgt := 25) hx hb dX1_orbit_21 (by decide) ?_
      exact W.iret (v := r_3) hx hb hr (fun t ht hW => ⟨_, rfl, hw, ht⟩) (fun q h => absurd h List.not_mem_nil) dX1_orbit_25
-- X1_common
set_option maxHeartbeats 4000000 in
set_option maxRecDepth 100000 in
theorem cM_common (l : Launch) (x0 : Int64) (x2 : Int64) (P : Int64 → Prop) (hw : wM_common P x0 x2) : Met l yX1_common wsX1_common ({ frames := 0, cells := 0, slots := 0, locals := 0 }) (va_Pc [.long x0, .long x2] (fun _ => True)) (vp_Sl P) 0 0 (fun _ => False) := by
  refine Met.ofW (cc := cX1_common) (maxL := 10) (ret := (some .long)) (by decide) rfl ?_
  intro p e s m args below meth c s₁ B0 hml hv
  obtain ⟨hargs, -⟩ := hv
  have hx := B0.exec
  have hb := B0.bytes
  have hr := B0.returns
  have hts := atoms_spec (ws := wsX1_common) B0.pre
  have hown : s.vm.findClass RX1 = some m.cls := findClass_of_methodNamed B0.named
  have hlocks := B0.notSynchronized
  have lp_17 : ∀ (n : Nat) (x4 : Int64) (x6 : Int64) (ls : Array Slot), Lp2 (wM_common_b17 P) n x4 x6 → lv_has ls 10 [(4, .long x4), (6, .long x6)] → W p l e (headSpec wsX1_common ({ frames := 0, cells := 0, slots := 0, locals := 0 })).room s m args below meth c s.heap [] 0 0 (MQ below (vp_Sl P) args s 0 0 (fun _ => False)) (F0 m 17 ls []) := by
    intro n
    induction n with
    | zero => intro x4 x6 ls hw; exact False.elim hw
    | succ n hB =>
      intro x4 x6 ls hw hl
      replace hw : wM_common_b17 P (Lp2 (wM_common_b17 P) n) x4 x6 := hw
      unfold wM_common_b17 at hw
      refine lv_lload hx hb dX1_common_17 (lv_at hl 1 rfl) ?_
      refine lv_lconst (v := (0 : Int64)) hx hb dX1_common_19 (by decide) ?_
      refine W.lcmp hx hb dX1_common_20 ?_
      refine lv_if_eq (tgt := 42) hx hb dX1_common_21 (by decide) (fun hc => ?_) (fun hc => ?_)
      · replace hw := hw.1 hc
        clear hc
        refine lv_lload hx hb dX1_common_42 (lv_at hl 0 rfl) ?_
        exact W.lret (v := x4) hx hb hr (fun t ht hW => ⟨_, rfl, hw, ht⟩) (fun q h => absurd h List.not_mem_nil) dX1_common_44
      · replace hw := hw.2 hc
        clear hc
        refine lv_lload hx hb dX1_common_24 (lv_at hl 0 rfl) ?_
        refine lv_lload hx hb dX1_common_26 (lv_at hl 1 rfl) ?_
        obtain ⟨hne, hw⟩ := hw
        refine lv_lrem hx hb dX1_common_28 hne ?_
        refine lv_topl (fun x8_1 hv => ?_)
        replace hw := hw x8_1 hv
        clear hv
        refine lv_lstore (lv' := [(8, .long x8_1), (4, .long x4), (6, .long x6)]) hx hb dX1_common_29 hl (by decide) rfl (fun ls hl => ?_)
        refine lv_lload hx hb dX1_common_31 (lv_at hl 2 rfl) ?_
        refine lv_lstore (lv' := [(4, .long x6), (8, .long x8_1), (6, .long x6)]) hx hb dX1_common_33 hl (by decide) rfl (fun ls hl => ?_)
        refine lv_lload hx hb dX1_common_35 (lv_at hl 1 rfl) ?_
        refine lv_lstore (lv' := [(6, .long x8_1), (4, .long x6), (8, .long x8_1)]) hx hb dX1_common_37 hl (by decide) rfl (fun ls hl => ?_)
        refine lv_goto (tgt := 17) hx hb dX1_common_39 (by decide) ?_
        exact hB x6 x8_1 ls hw (lv_sub hl [1, 0] rfl)
  have jn_12 : ∀ (x2 : Int64) (y0 : Int64) (ls : Array Slot), wM_common_j12 P x2 y0 → lv_has ls 10 [(2, .long x2)] → W p l e (headSpec wsX1_common ({ frames := 0, cells := 0, slots := 0, locals := 0 })).room s m args below meth c s.heap [] 0 0 (MQ below (vp_Sl P) args s 0 0 (fun _ => False)) (F0 m 12 ls [.long y0]) := by
    intro x2 y0 ls hw hl
    unfold wM_common_j12 at hw
    refine lv_lstore (lv' := [(4, .long y0), (2, .long x2)]) hx hb dX1_common_12 hl (by decide) rfl (fun ls hl => ?_)
    refine lv_lload_n hx hb dX1_common_14 rfl (lv_at hl 1 rfl) ?_
    refine lv_lstore (lv' := [(6, .long x2), (4, .long y0), (2, .long x2)]) hx hb dX1_common_15 hl (by decide) rfl (fun ls hl => ?_)
    obtain ⟨n_2, hw⟩ := hw
    exact lp_17 n_2 y0 x2 ls hw (lv_sub hl [1, 0] rfl)
  subst hargs
  unfold wM_common at hw
  have hl := lv_entry ([.long x0, .long x2]) (n := 10) (Nat.le_of_ble_eq_true rfl)
  rw [lg_entry_eq]
  generalize (lg_sl ([.long x0, .long x2]) ++ List.replicate (10 - (lg_sl ([.long x0, .long x2])).length) Slot.unset).toArray = ls at hl ⊢
  have hl : lv_has ls 10 [(0, .long x0), (2, .long x2)] := hl
  refine lv_lload_n hx hb dX1_common_0 rfl (lv_at hl 0 rfl) ?_
  refine lv_lconst (v := (0 : Int64)) hx hb dX1_common_1 (by decide) ?_
  refine W.lcmp hx hb dX1_common_2 ?_
  refine lv_if_ge (tgt := 11) hx hb dX1_common_3 (by decide) (fun hc => ?_) (fun hc => ?_)
  · replace hw := hw.1 hc
    clear hc
    refine lv_lload_n hx hb dX1_common_11 rfl (lv_at hl 0 rfl) ?_
    exact jn_12 x2 x0 ls hw (lv_sub hl [1] rfl)
  · replace hw := hw.2 hc
    clear hc
    refine lv_lload_n hx hb dX1_common_6 rfl (lv_at hl 0 rfl) ?_
    refine lv_lneg hx hb dX1_common_7 ?_
    refine lv_goto (tgt := 12) hx hb dX1_common_8 (by decide) ?_
    exact jn_12 x2 (-x0) ls hw (lv_sub hl [1] rfl)
