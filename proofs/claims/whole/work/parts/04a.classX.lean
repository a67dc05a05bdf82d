-- X0_things
set_option maxHeartbeats 4000000 in
set_option maxRecDepth 100000 in
theorem cX_things (l : Launch) (dC : Nat → ClassId) (dI : Nat → Nat → Nat) (h : Nat) (ad : Nat → Nat) (ca : Nat → ClassId) (sz : Nat) (tc cl : Int32) (tr : Int64) (g : Sg) (x1 : Int32) (P : Int32 → Int32 → Int32 → Int64 → Sg → Prop) (hw : wX_things P tc cl tr g x1) : Met l yX0_things wsX0_things ({ frames := 0, cells := 0, slots := 0, locals := 0 }) (va_Pc [.ref h, .int x1] (fun U => U.heap.size = sz ∧ va_P (dC, dI) vwCl (XL h ad ca tc cl tr g) U.heap ∧ va_K (dC, dI) vwCl (XT ca) U ∧ va_D (fun _ => True) (XL h ad ca tc cl tr g))) (va_Qi (fun (r : Int32) (u : Int32 × Int32 × Int64 × Sg) => P r u.1 u.2.1 u.2.2.1 u.2.2.2) (at_X2 dC dI (va_A (XL h ad ca tc cl tr g) sz) h ad ca) (va_A (XL h ad ca tc cl tr g) sz)) 0 0 (va_A (XL h ad ca tc cl tr g) sz) := by
  refine Met.ofW (cc := cX0_things) (maxL := 4) (ret := (some .int)) (by decide) rfl ?_
  intro p e s m args below meth c s₁ B0 hml hv
  obtain ⟨hargs, hsz, hP, hK, hD0⟩ := hv
  have hx := B0.exec
  have hb := B0.bytes
  have hr := B0.returns
  have hts := atoms_spec (ws := wsX0_things) B0.pre
  have hown : s.vm.findClass RX0 = some m.cls := findClass_of_methodNamed B0.named
  have hlocks := B0.notSynchronized
  have inw : ∀ w ∈ wsX00, w ∈ wsX0_things := fun w h => List.mem_cons_of_mem _ (List.mem_append_right _ h)
  have f9 : (Cond.fieldLink RX0 9 "FlipHeaps" "thingCount" "I").before args s = true := hts _ (by decide +kernel)
  have f13 : (Cond.fieldLink RX0 13 "FlipHeaps" "under" "[I").before args s = true := hts _ (by decide +kernel)
  have f17 : (Cond.fieldLink RX0 17 "FlipHeaps" "over" "[I").before args s = true := hts _ (by decide +kernel)
  have f20 : (Cond.fieldLink RX0 20 "FlipHeaps" "weights" "[I").before args s = true := hts _ (by decide +kernel)
  have f45 : (Cond.fieldLink RX0 45 "FlipHeaps" "chainLength" "I").before args s = true := hts _ (by decide +kernel)
  subst hsz
  have hD := hD0.self (sz := s.heap.size)
  generalize hAe : va_A (XL h ad ca tc cl tr g) s.heap.size = A at hD ⊢
  have hA : ∀ q : Nat, s.heap.size ≤ q → A q := fun q h => by rw [← hAe]; exact Or.inr h
  clear hAe hD0
  have hS : va_S A s.heap s.heap [] := va_S.rf
  have lp_20 : ∀ (x1 : Int32) (x2 : Int32) (K53 : Int32 → Int32 → Int64 → Sg → Prop) (hK53 : ∀ (tc : Int32) (cl : Int32) (tr : Int64) (g : Sg) (H : Heap) (locs : List Loc) (ls : Array Slot), K53 tc cl tr g → va_P (dC, dI) vwCl (XL h ad ca tc cl tr g) H → va_D A (XL h ad ca tc cl tr g) → va_S A s.heap H locs → lv_has ls 4 [(0, .ref h), (1, .int x1), (2, .int x2)] → W p l e (headSpec wsX0_things ({ frames := 0, cells := 0, slots := 0, locals := 0 })).room s m args below meth c H locs 0 0 (MQ below (va_Qi (fun (r : Int32) (u : Int32 × Int32 × Int64 × Sg) => P r u.1 u.2.1 u.2.2.1 u.2.2.2) (at_X2 dC dI A h ad ca) A) args s 0 0 A) (F0 m 53 ls [])), ∀ (n : Nat) (x3 : Int32) (tc : Int32) (cl : Int32) (tr : Int64) (g : Sg) (H : Heap) (locs : List Loc) (ls : Array Slot), Lp5 (wX_things_b20 P x1 x2 K53) n x3 tc cl tr g → va_P (dC, dI) vwCl (XL h ad ca tc cl tr g) H → va_D A (XL h ad ca tc cl tr g) → va_S A s.heap H locs → lv_has ls 4 [(0, .ref h), (1, .int x1), (2, .int x2), (3, .int x3)] → W p l e (headSpec wsX0_things ({ frames := 0, cells := 0, slots := 0, locals := 0 })).room s m args below meth c H locs 0 0 (MQ below (va_Qi (fun (r : Int32) (u : Int32 × Int32 × Int64 × Sg) => P r u.1 u.2.1 u.2.2.1 u.2.2.2) (at_X2 dC dI A h ad ca) A) args s 0 0 A) (F0 m 20 ls []) := by
    intro x1 x2 K53 hK53
    intro n
    induction n with
    | zero => intro x3 tc cl tr g H locs ls hw; exact False.elim hw
    | succ n hB =>
      intro x3 tc cl tr g H locs ls hw hP hD hS hl
      replace hw : wX_things_b20 P x1 x2 K53 (Lp5 (wX_things_b20 P x1 x2 K53) n) x3 tc cl tr g := hw
      unfold wX_things_b20 at hw
      refine lv_iload_n hx hb dX0_things_20 rfl (lv_at hl 3 rfl) ?_
      refine lv_bipush (v := (8 : Int32)) hx hb dX0_things_21 (by decide) ?_
      refine lv_icmp_ge (tgt := 53) hx hb dX0_things_23 (by decide) (fun hc => ?_) (fun hc => ?_)
      · replace hw := hw.1 hc
        clear hc
        exact hK53 tc cl tr g H locs ls hw hP hD hS (lv_sub hl [0, 1, 2] rfl)
      · replace hw := hw.2 hc
        clear hc
        refine lv_aload_n hx hb dX0_things_26 rfl (lv_at hl 0 rfl) ?_
        refine va_get (D := (dC, dI)) (ci := 0) (C := RX0) (T := TX0) (N := 13) hx hb hts inw hown hK hP 0 rfl rfl 3 (by decide) f13 (fun _ h9 => h9) rfl dX0_things_27 ?_
        refine lv_iload_n hx hb dX0_things_30 rfl (lv_at hl 3 rfl) ?_
        refine lv_iconst (v := (0 : Int32)) hx hb dX0_things_31 (by decide) ?_
        obtain ⟨hin, hw⟩ := hw
        refine va_iast hx hb hK hP hD hS 1 0 rfl rfl hin dX0_things_32 (fun H locs hP hD hS => ?_)
        obtain ⟨g_1, hg⟩ : ∃ z : Sg, z = up2 g 3 (x3).toNatClampNeg (0 : Int32) := ⟨_, rfl⟩
        replace hw := hw g_1 hg
        have hP : va_P (dC, dI) vwCl (XL h ad ca tc cl tr g_1) H := by rw [hg]; exact hP
        have hD : va_D A (XL h ad ca tc cl tr g_1) := by rw [hg]; exact hD
        clear hg
        refine lv_aload_n hx hb dX0_things_33 rfl (lv_at hl 0 rfl) ?_
        refine va_get (D := (dC, dI)) (ci := 0) (C := RX0) (T := TX0) (N := 13) hx hb hts inw hown hK hP 0 rfl rfl 4 (by decide) f17 (fun _ h9 => h9) rfl dX0_things_34 ?_
        refine lv_iload_n hx hb dX0_things_37 rfl (lv_at hl 3 rfl) ?_
        refine lv_iconst (v := (0 : Int32)) hx hb dX0_things_38 (by decide) ?_
        obtain ⟨hin, hw⟩ := hw
        refine va_iast hx hb hK hP hD hS 2 1 rfl rfl hin dX0_things_39 (fun H locs hP hD hS => ?_)
        obtain ⟨g_2, hg⟩ : ∃ z : Sg, z = up2 g_1 4 (x3).toNatClampNeg (0 : Int32) := ⟨_, rfl⟩
        replace hw := hw g_2 hg
        have hP : va_P (dC, dI) vwCl (XL h ad ca tc cl tr g_2) H := by rw [hg]; exact hP
        have hD : va_D A (XL h ad ca tc cl tr g_2) := by rw [hg]; exact hD
        clear hg
        refine lv_aload_n hx hb dX0_things_40 rfl (lv_at hl 0 rfl) ?_
        refine va_get (D := (dC, dI)) (ci := 0) (C := RX0) (T := TX0) (N := 13) hx hb hts inw hown hK hP 0 rfl rfl 5 (by decide) f20 (fun _ h9 => h9) rfl dX0_things_41 ?_
        refine lv_iload_n hx hb dX0_things_44 rfl (lv_at hl 3 rfl) ?_
        refine lv_iconst (v := (0 : Int32)) hx hb dX0_things_45 (by decide) ?_
        obtain ⟨hin, hw⟩ := hw
        refine va_iast hx hb hK hP hD hS 3 2 rfl rfl hin dX0_things_46 (fun H locs hP hD hS => ?_)
        obtain ⟨g_3, hg⟩ : ∃ z : Sg, z = up2 g_2 5 (x3).toNatClampNeg (0 : Int32) := ⟨_, rfl⟩
        replace hw := hw g_3 hg
        have hP : va_P (dC, dI) vwCl (XL h ad ca tc cl tr g_3) H := by rw [hg]; exact hP
        have hD : va_D A (XL h ad ca tc cl tr g_3) := by rw [hg]; exact hD
        clear hg
        refine lv_iinc (v := (x3 + 1)) (lv' := [(3, .int ((x3 + 1))), (0, .ref h), (1, .int x1), (2, .int x2)]) hx hb dX0_things_47 hl (k := 3) rfl rfl (by decide) rfl (fun ls hl => ?_)
        refine lv_goto (tgt := 20) hx hb dX0_things_50 (by decide) ?_
        exact hB (x3 + 1) tc cl tr g_3 H locs ls hw hP hD hS (lv_sub hl [1, 2, 3, 0] rfl)
  subst hargs
  unfold wX_things at hw
  have hl := lv_entry ([.ref h, .int x1]) (n := 4) (Nat.le_of_ble_eq_true rfl)
  rw [lg_entry_eq]
  generalize (lg_sl ([.ref h, .int x1]) ++ List.replicate (4 - (lg_sl ([.ref h, .int x1])).length) Slot.unset).toArray = ls at hl ⊢
  have hl : lv_has ls 4 [(0, .ref h), (1, .int x1)] := hl
  obtain ⟨H, hHe⟩ : ∃ z : Heap, z = s.heap := ⟨_, rfl⟩
  obtain ⟨locs, hLe⟩ : ∃ z : List Loc, z = [] := ⟨_, rfl⟩
  have hS : va_S A s.heap H locs := by rw [hHe, hLe]; exact hS
  have hP : va_P (dC, dI) vwCl (XL h ad ca tc cl tr g) H := by rw [hHe]; exact hP
  have hgo : W p l e (headSpec wsX0_things ({ frames := 0, cells := 0, slots := 0, locals := 0 })).room s m ([.ref h, .int x1] : List Value).toArray below meth c H locs 0 0 (MQ below (va_Qi (fun (r : Int32) (u : Int32 × Int32 × Int64 × Sg) => P r u.1 u.2.1 u.2.2.1 u.2.2.2) (at_X2 dC dI A h ad ca) A) ([.ref h, .int x1] : List Value).toArray s 0 0 A) (F0 m 0 ls []) := by
    clear hHe hLe
    refine lv_iload_n hx hb dX0_things_0 rfl (lv_at hl 1 rfl) ?_
    refine lv_iconst (v := (1 : Int32)) hx hb dX0_things_1 (by decide) ?_
    refine lv_icmp_lt (tgt := 11) hx hb dX0_things_2 (by decide) (fun hc => ?_) (fun hc => ?_)
    · replace hw := hw.1 hc
      clear hc
      refine lv_iconst (v := (-1 : Int32)) hx hb dX0_things_11 (by decide) ?_
      exact W.iret (v := (-1 : Int32)) hx hb hr (fun t ht hW => ⟨⟨(-1 : Int32), (tc, cl, tr, g), rfl, hw, by rw [ht]; exact hP, va_K.moved hW.alike hK, hD⟩, hS.F ht⟩) hS.2.2 dX0_things_12
    · replace hw := hw.2 hc
      clear hc
      refine lv_iload_n hx hb dX0_things_5 rfl (lv_at hl 1 rfl) ?_
      refine lv_bipush (v := (8 : Int32)) hx hb dX0_things_6 (by decide) ?_
      refine lv_icmp_le (tgt := 13) hx hb dX0_things_8 (by decide) (fun hc => ?_) (fun hc => ?_)
      · replace hw := hw.1 hc
        clear hc
        refine lv_aload_n hx hb dX0_things_13 rfl (lv_at hl 0 rfl) ?_
        refine va_get (D := (dC, dI)) (ci := 0) (C := RX0) (T := TX0) (N := 13) hx hb hts inw hown hK hP 0 rfl rfl 0 (by decide) f9 (fun _ h9 => h9) rfl dX0_things_14 ?_
        refine lv_istore_n (lv' := [(2, .int tc), (0, .ref h), (1, .int x1)]) hx hb dX0_things_17 rfl hl (by decide) rfl (fun ls hl => ?_)
        refine lv_iconst (v := (0 : Int32)) hx hb dX0_things_18 (by decide) ?_
        refine lv_istore_n (lv' := [(3, .int (0 : Int32)), (2, .int tc), (0, .ref h), (1, .int x1)]) hx hb dX0_things_19 rfl hl (by decide) rfl (fun ls hl => ?_)
        obtain ⟨n_8, hw⟩ := hw
        refine lp_20 x1 tc _ ?_ n_8 (0 : Int32) tc cl tr g H locs ls hw hP hD hS (lv_sub hl [2, 3, 1, 0] rfl)
        · intro tc_4 cl_5 tr_6 g_7 H locs ls hw hP hD hS hl
          try dsimp only at hw
          refine lv_aload_n hx hb dX0_things_53 rfl (lv_at hl 0 rfl) ?_
          refine lv_iload_n hx hb dX0_things_54 rfl (lv_at hl 1 rfl) ?_
          refine va_put (D := (dC, dI)) (ci := 0) (v := .int x1) (ty := .int) (C := RX0) (T := TX0) (N := 13) hx hb hts inw tyX0 tyX0_ok nmX0 hown hK hP hD hS 0 rfl rfl 0 (by decide) f9 (fun _ h9 => h9) rfl (by decide +kernel) rfl rfl (Nat.le_of_ble_eq_true rfl) dX0_things_55 (fun H locs hP hD hS => ?_)
          have hP : va_P (dC, dI) vwCl (XL h ad ca x1 cl_5 tr_6 g_7) H := hP
          have hD : va_D A (XL h ad ca x1 cl_5 tr_6 g_7) := hD
          refine lv_aload_n hx hb dX0_things_58 rfl (lv_at hl 0 rfl) ?_
          refine lv_iconst (v := (0 : Int32)) hx hb dX0_things_59 (by decide) ?_
          refine va_put (D := (dC, dI)) (ci := 0) (v := .int (0 : Int32)) (ty := .int) (C := RX0) (T := TX0) (N := 13) hx hb hts inw tyX0 tyX0_ok nmX0 hown hK hP hD hS 0 rfl rfl 1 (by decide) f45 (fun _ h9 => h9) rfl (by decide +kernel) rfl rfl (Nat.le_of_ble_eq_true rfl) dX0_things_60 (fun H locs hP hD hS => ?_)
          have hP : va_P (dC, dI) vwCl (XL h ad ca x1 (0 : Int32) tr_6 g_7) H := hP
          have hD : va_D A (XL h ad ca x1 (0 : Int32) tr_6 g_7) := hD
          refine lv_iload_n hx hb dX0_things_63 rfl (lv_at hl 2 rfl) ?_
          exact W.iret (v := tc) hx hb hr (fun t ht hW => ⟨⟨tc, (x1, (0 : Int32), tr_6, g_7), rfl, hw, by rw [ht]; exact hP, va_K.moved hW.alike hK, hD⟩, hS.F ht⟩) hS.2.2 dX0_things_64
      · replace hw := hw.2 hc
        clear hc
        refine lv_iconst (v := (-1 : Int32)) hx hb dX0_things_11 (by decide) ?_
        exact W.iret (v := (-1 : Int32)) hx hb hr (fun t ht hW => ⟨⟨(-1 : Int32), (tc, cl, tr, g), rfl, hw, by rw [ht]; exact hP, va_K.moved hW.alike hK, hD⟩, hS.F ht⟩) hS.2.2 dX0_things_12
  rw [hHe, hLe] at hgo
  exact hgo
-- X0_isThing
set_option maxHeartbeats 4000000 in
set_option maxRecDepth 100000 in
theorem cX_isThing (l : Launch) (dC : Nat → ClassId) (dI : Nat → Nat → Nat) (h : Nat) (ad : Nat → Nat) (ca : Nat → ClassId) (tc cl : Int32) (tr : Int64) (g : Sg) (x1 : Int32) (P : Int32 → Prop) (hw : wX_isThing P tc cl tr g x1) : Met l yX0_isThing wsX0_isThing ({ frames := 0, cells := 0, slots := 0, locals := 0 }) (va_Pc [.ref h, .int x1] (fun U => va_P (dC, dI) vwCl (XL h ad ca tc cl tr g) U.heap ∧ va_K (dC, dI) vwCl (XT ca) U)) (vp_Si P) 0 0 (fun _ => False) := by
  refine Met.ofW (cc := cX0_isThing) (maxL := 2) (ret := (some .boolean)) (by decide) rfl ?_
  intro p e s m args below meth c s₁ B0 hml hv
  obtain ⟨hargs, hP, hK⟩ := hv
  have hx := B0.exec
  have hb := B0.bytes
  have hr := B0.returns
  have hts := atoms_spec (ws := wsX0_isThing) B0.pre
  have hown : s.vm.findClass RX0 = some m.cls := findClass_of_methodNamed B0.named
  have hlocks := B0.notSynchronized
  have inw : ∀ w ∈ wsX00, w ∈ wsX0_isThing := fun w h => List.mem_cons_of_mem _ (List.mem_append_right _ h)
  have f9 : (Cond.fieldLink RX0 9 "FlipHeaps" "thingCount" "I").before args s = true := hts _ (by decide +kernel)
  subst hargs
  unfold wX_isThing at hw
  have hl := lv_entry ([.ref h, .int x1]) (n := 2) (Nat.le_of_ble_eq_true rfl)
  rw [lg_entry_eq]
  generalize (lg_sl ([.ref h, .int x1]) ++ List.replicate (2 - (lg_sl ([.ref h, .int x1])).length) Slot.unset).toArray = ls at hl ⊢
  have hl : lv_has ls 2 [(0, .ref h), (1, .int x1)] := hl
  refine lv_iload_n hx hb dX0_isThing_0 rfl (lv_at hl 1 rfl) ?_
  refine lv_if_lt (tgt := 16) hx hb dX0_isThing_1 (by decide) (fun hc => ?_) (fun hc => ?_)
  · replace hw := hw.1 hc
    clear hc
    refine lv_iconst (v := (0 : Int32)) hx hb dX0_isThing_16 (by decide) ?_
    exact W.zret (v := (0 : Int32)) hx hb hr rfl (fun t ht hW => ⟨_, rfl, hw, ht⟩) (fun q h => absurd h List.not_mem_nil) dX0_isThing_17
  · replace hw := hw.2 hc
    clear hc
    refine lv_iload_n hx hb dX0_isThing_4 rfl (lv_at hl 1 rfl) ?_
    refine lv_aload_n hx hb dX0_isThing_5 rfl (lv_at hl 0 rfl) ?_
    refine va_get (D := (dC, dI)) (ci := 0) (C := RX0) (T := TX0) (N := 13) hx hb hts inw hown hK hP 0 rfl rfl 0 (by decide) f9 (fun _ h9 => h9) rfl dX0_isThing_6 ?_
    refine lv_icmp_ge (tgt := 16) hx hb dX0_isThing_9 (by decide) (fun hc => ?_) (fun hc => ?_)
    · replace hw := hw.1 hc
      clear hc
      refine lv_iconst (v := (0 : Int32)) hx hb dX0_isThing_16 (by decide) ?_
      exact W.zret (v := (0 : Int32)) hx hb hr rfl (fun t ht hW => ⟨_, rfl, hw, ht⟩) (fun q h => absurd h List.not_mem_nil) dX0_isThing_17
    · replace hw := hw.2 hc
      clear hc
      refine lv_iconst (v := (1 : Int32)) hx hb dX0_isThing_12 (by decide) ?_
      refine lv_goto (tgt := 17) hx hb dX0_isThing_13 (by decide) ?_
      exact W.zret (v := (1 : Int32)) hx hb hr rfl (fun t ht hW => ⟨_, rfl, hw, ht⟩) (fun q h => absurd h List.not_mem_nil) dX0_isThing_17
-- X0_has
set_option maxHeartbeats 4000000 in
set_option maxRecDepth 100000 in
theorem cX_has (l : Launch) (x0 : Int32) (x1 : Int32) (P : Int32 → Prop) (hw : wX_has P x0 x1) : Met l yX0_has wsX0_has ({ frames := 0, cells := 0, slots := 0, locals := 0 }) (va_Pc [.int x0, .int x1] (fun _ => True)) (vp_Si P) 0 0 (fun _ => False) := by
  refine Met.ofW (cc := cX0_has) (maxL := 2) (ret := (some .boolean)) (by decide) rfl ?_
  intro p e s m args below meth c s₁ B0 hml hv
  obtain ⟨hargs, -⟩ := hv
  have hx := B0.exec
  have hb := B0.bytes
  have hr := B0.returns
  have hts := atoms_spec (ws := wsX0_has) B0.pre
  have hown : s.vm.findClass RX0 = some m.cls := findClass_of_methodNamed B0.named
  have hlocks := B0.notSynchronized
  subst hargs
  unfold wX_has at hw
  have hl := lv_entry ([.int x0, .int x1]) (n := 2) (Nat.le_of_ble_eq_true rfl)
  rw [lg_entry_eq]
  generalize (lg_sl ([.int x0, .int x1]) ++ List.replicate (2 - (lg_sl ([.int x0, .int x1])).length) Slot.unset).toArray = ls at hl ⊢
  have hl : lv_has ls 2 [(0, .int x0), (1, .int x1)] := hl
  refine lv_iload_n hx hb dX0_has_0 rfl (lv_at hl 0 rfl) ?_
  refine lv_iload_n hx hb dX0_has_1 rfl (lv_at hl 1 rfl) ?_
  refine lv_ishr hx hb dX0_has_2 ?_
  refine lv_iconst (v := (1 : Int32)) hx hb dX0_has_3 (by decide) ?_
  refine lv_iand hx hb dX0_has_4 ?_
  refine lv_if_eq (tgt := 12) hx hb dX0_has_5 (by decide) (fun hc => ?_) (fun hc => ?_)
  · replace hw := hw.1 hc
    clear hc
    refine lv_iconst (v := (0 : Int32)) hx hb dX0_has_12 (by decide) ?_
    exact W.zret (v := (0 : Int32)) hx hb hr rfl (fun t ht hW => ⟨_, rfl, hw, ht⟩) (fun q h => absurd h List.not_mem_nil) dX0_has_13
  · replace hw := hw.2 hc
    clear hc
    refine lv_iconst (v := (1 : Int32)) hx hb dX0_has_8 (by decide) ?_
    refine lv_goto (tgt := 13) hx hb dX0_has_9 (by decide) ?_
    exact W.zret (v := (1 : Int32)) hx hb hr rfl (fun t ht hW => ⟨_, rfl, hw, ht⟩) (fun q h => absurd h List.not_mem_nil) dX0_has_13
-- X0_lay
set_option maxHeartbeats 4000000 in
set_option maxRecDepth 100000 in
theorem cX_lay (l : Launch) (dC : Nat → ClassId) (dI : Nat → Nat → Nat) (h : Nat) (ad : Nat → Nat) (ca : Nat → ClassId) (sz : Nat) (tc cl : Int32) (tr : Int64) (g : Sg) (x1 : Int32) (x2 : Int32) (P : Int32 → Sg → Prop) (hw : wX_lay P tc cl tr g x1 x2) : Met l yX0_lay wsX0_lay ({ frames := 1, cells := 0, slots := 0, locals := 21 }) (va_Pc [.ref h, .int x1, .int x2] (fun U => U.heap.size = sz ∧ va_P (dC, dI) vwCl (XL h ad ca tc cl tr g) U.heap ∧ va_K (dC, dI) vwCl (XT ca) U ∧ va_D (fun _ => True) (XL h ad ca tc cl tr g))) (va_Qi (fun (r : Int32) (u : Sg) => P r u) (at_X1 dC dI (va_A (XL h ad ca tc cl tr g) sz) h ad ca tc cl tr) (va_A (XL h ad ca tc cl tr g) sz)) 0 0 (va_A (XL h ad ca tc cl tr g) sz) := by
  refine Met.ofW (cc := cX0_lay) (maxL := 6) (ret := (some .int)) (by decide) rfl ?_
  intro p e s m args below meth c s₁ B0 hml hv
  obtain ⟨hargs, hsz, hP, hK, hD0⟩ := hv
  have hx := B0.exec
  have hb := B0.bytes
  have hr := B0.returns
  have hts := atoms_spec (ws := wsX0_lay) B0.pre
  have hown : s.vm.findClass RX0 = some m.cls := findClass_of_methodNamed B0.named
  have hlocks := B0.notSynchronized
  have inw : ∀ w ∈ wsX00, w ∈ wsX0_lay := fun w h => List.mem_cons_of_mem _ (List.mem_append_right _ h)
  have f9 : (Cond.fieldLink RX0 9 "FlipHeaps" "thingCount" "I").before args s = true := hts _ (by decide +kernel)
  have f13 : (Cond.fieldLink RX0 13 "FlipHeaps" "under" "[I").before args s = true := hts _ (by decide +kernel)
  have f17 : (Cond.fieldLink RX0 17 "FlipHeaps" "over" "[I").before args s = true := hts _ (by decide +kernel)
  subst hsz
  have hD := hD0.self (sz := s.heap.size)
  generalize hAe : va_A (XL h ad ca tc cl tr g) s.heap.size = A at hD ⊢
  have hA : ∀ q : Nat, s.heap.size ≤ q → A q := fun q h => by rw [← hAe]; exact Or.inr h
  clear hAe hD0
  have hS : va_S A s.heap s.heap [] := va_S.rf
  have jn_94 : ∀ (B : Int32 → Sg → Prop) (x3 : Int32) (x4 : Int32) (x5 : Int32) (g : Sg) (hB : ∀ (x5 : Int32) (g : Sg) (H : Heap) (locs : List Loc) (ls : Array Slot), B x5 g → va_P (dC, dI) vwCl (XL h ad ca tc cl tr g) H → va_D A (XL h ad ca tc cl tr g) → va_S A s.heap H locs → lv_has ls 6 [(0, .ref h), (3, .int x3), (4, .int x4), (5, .int x5)] → W p l e (headSpec wsX0_lay ({ frames := 1, cells := 0, slots := 0, locals := 21 })).room s m args below meth c H locs 0 0 (MQ below (va_Qi (fun (r : Int32) (u : Sg) => P r u) (at_X1 dC dI A h ad ca tc cl tr) A) args s 0 0 A) (F0 m 64 ls [])) (H : Heap) (locs : List Loc) (ls : Array Slot), wX_lay_j94 P tc cl tr B x3 x4 x5 g → va_P (dC, dI) vwCl (XL h ad ca tc cl tr g) H → va_D A (XL h ad ca tc cl tr g) → va_S A s.heap H locs → lv_has ls 6 [(0, .ref h), (3, .int x3), (4, .int x4), (5, .int x5)] → W p l e (headSpec wsX0_lay ({ frames := 1, cells := 0, slots := 0, locals := 21 })).room s m args below meth c H locs 0 0 (MQ below (va_Qi (fun (r : Int32) (u : Sg) => P r u) (at_X1 dC dI A h ad ca tc cl tr) A) args s 0 0 A) (F0 m 94 ls []) := by
    intro B x3 x4 x5 g hB H locs ls hw hP hD hS hl
    unfold wX_lay_j94 at hw
    refine lv_iload hx hb dX0_lay_94 (lv_at hl 2 rfl) ?_
    refine lv_iload hx hb dX0_lay_96 (lv_at hl 3 rfl) ?_
    refine vp_callSi (W.runS (As := [.int x4, .int x5]) (rest := []) ⟨hx, hb, hml, hown, hts⟩ (cX_has l x4 x5 _ hw) (va_cwS 2 hts gX0_lay_X0_has rfl rfl rfl (by decide +kernel) ⟨Nat.le_of_ble_eq_true rfl, Nat.le_of_ble_eq_true rfl⟩) ⟨fun a U g mk q => q, fun U hU hW => ⟨rfl, trivial⟩⟩ rfl rfl hl.1 rfl (lv_room (Nat.le_of_ble_eq_true rfl)) dX0_lay_98 ⟨Nat.zero_le _, Nat.zero_le _⟩) (fun r_1 hw => ?_)
    try dsimp only at hw
    refine lv_if_eq (tgt := 115) hx hb dX0_lay_101 (by decide) (fun hc => ?_) (fun hc => ?_)
    · replace hw := hw.1 hc
      clear hc
      refine lv_iinc (v := (x5 + 1)) (lv' := [(5, .int ((x5 + 1))), (0, .ref h), (3, .int x3), (4, .int x4)]) hx hb dX0_lay_115 hl (k := 3) rfl rfl (by decide) rfl (fun ls hl => ?_)
      refine lv_goto (tgt := 64) hx hb dX0_lay_118 (by decide) ?_
      exact hB (x5 + 1) g H locs ls hw hP hD hS (lv_sub hl [1, 2, 3, 0] rfl)
    · replace hw := hw.2 hc
      clear hc
      refine lv_aload_n hx hb dX0_lay_104 rfl (lv_at hl 0 rfl) ?_
      refine va_get (D := (dC, dI)) (ci := 0) (C := RX0) (T := TX0) (N := 13) hx hb hts inw hown hK hP 0 rfl rfl 3 (by decide) f13 (fun _ h9 => h9) rfl dX0_lay_105 ?_
      refine lv_iload hx hb dX0_lay_108 (lv_at hl 3 rfl) ?_
      refine lv_dup2_11 hx hb dX0_lay_110 rfl rfl ?_
      obtain ⟨hin, hw⟩ := hw
      refine va_iald hx hb hK hP 1 0 rfl rfl hin dX0_lay_111 ?_
      refine lv_iload_n hx hb dX0_lay_112 rfl (lv_at hl 1 rfl) ?_
      refine lv_ior hx hb dX0_lay_113 ?_
      obtain ⟨hin, hw⟩ := hw
      refine va_iast hx hb hK hP hD hS 1 0 rfl rfl hin dX0_lay_114 (fun H locs hP hD hS => ?_)
      obtain ⟨g_2, hg⟩ : ∃ z : Sg, z = up2 g 3 (x5).toNatClampNeg ((g 3 (x5).toNatClampNeg) ||| x3) := ⟨_, rfl⟩
      replace hw := hw g_2 hg
      have hP : va_P (dC, dI) vwCl (XL h ad ca tc cl tr g_2) H := by rw [hg]; exact hP
      have hD : va_D A (XL h ad ca tc cl tr g_2) := by rw [hg]; exact hD
      clear hg
      refine lv_iinc (v := (x5 + 1)) (lv' := [(5, .int ((x5 + 1))), (0, .ref h), (3, .int x3), (4, .int x4)]) hx hb dX0_lay_115 hl (k := 3) rfl rfl (by decide) rfl (fun ls hl => ?_)
      refine lv_goto (tgt := 64) hx hb dX0_lay_118 (by decide) ?_
      exact hB (x5 + 1) g_2 H locs ls hw hP hD hS (lv_sub hl [1, 2, 3, 0] rfl)
  have lp_64 : ∀ (x3 : Int32) (x4 : Int32), ∀ (n : Nat) (x5 : Int32) (g : Sg) (H : Heap) (locs : List Loc) (ls : Array Slot), Lp2 (wX_lay_b64 P tc cl tr x3 x4) n x5 g → va_P (dC, dI) vwCl (XL h ad ca tc cl tr g) H → va_D A (XL h ad ca tc cl tr g) → va_S A s.heap H locs → lv_has ls 6 [(0, .ref h), (3, .int x3), (4, .int x4), (5, .int x5)] → W p l e (headSpec wsX0_lay ({ frames := 1, cells := 0, slots := 0, locals := 21 })).room s m args below meth c H locs 0 0 (MQ below (va_Qi (fun (r : Int32) (u : Sg) => P r u) (at_X1 dC dI A h ad ca tc cl tr) A) args s 0 0 A) (F0 m 64 ls []) := by
    intro x3 x4
    intro n
    induction n with
    | zero => intro x5 g H locs ls hw; exact False.elim hw
    | succ n hB =>
      intro x5 g H locs ls hw hP hD hS hl
      replace hw : wX_lay_b64 P tc cl tr x3 x4 (Lp2 (wX_lay_b64 P tc cl tr x3 x4) n) x5 g := hw
      unfold wX_lay_b64 at hw
      refine lv_iload hx hb dX0_lay_64 (lv_at hl 3 rfl) ?_
      refine lv_aload_n hx hb dX0_lay_66 rfl (lv_at hl 0 rfl) ?_
      refine va_get (D := (dC, dI)) (ci := 0) (C := RX0) (T := TX0) (N := 13) hx hb hts inw hown hK hP 0 rfl rfl 0 (by decide) f9 (fun _ h9 => h9) rfl dX0_lay_67 ?_
      refine lv_icmp_ge (tgt := 121) hx hb dX0_lay_70 (by decide) (fun hc => ?_) (fun hc => ?_)
      · replace hw := hw.1 hc
        clear hc
        refine lv_iconst (v := (1 : Int32)) hx hb dX0_lay_121 (by decide) ?_
        exact W.iret (v := (1 : Int32)) hx hb hr (fun t ht hW => ⟨⟨(1 : Int32), g, rfl, hw, by rw [ht]; exact hP, va_K.moved hW.alike hK, hD⟩, hS.F ht⟩) hS.2.2 dX0_lay_122
      · replace hw := hw.2 hc
        clear hc
        refine lv_iload_n hx hb dX0_lay_73 rfl (lv_at hl 1 rfl) ?_
        refine lv_iload hx hb dX0_lay_74 (lv_at hl 3 rfl) ?_
        refine vp_callSi (W.runS (As := [.int x3, .int x5]) (rest := []) ⟨hx, hb, hml, hown, hts⟩ (cX_has l x3 x5 _ hw) (va_cwS 2 hts gX0_lay_X0_has rfl rfl rfl (by decide +kernel) ⟨Nat.le_of_ble_eq_true rfl, Nat.le_of_ble_eq_true rfl⟩) ⟨fun a U g mk q => q, fun U hU hW => ⟨rfl, trivial⟩⟩ rfl rfl hl.1 rfl (lv_room (Nat.le_of_ble_eq_true rfl)) dX0_lay_76 ⟨Nat.zero_le _, Nat.zero_le _⟩) (fun r_3 hw => ?_)
        try dsimp only at hw
        refine lv_if_eq (tgt := 94) hx hb dX0_lay_79 (by decide) (fun hc => ?_) (fun hc => ?_)
        · replace hw := hw.1 hc
          clear hc
          exact jn_94 _ x3 x4 x5 g hB H locs ls hw hP hD hS (lv_sub hl [0, 1, 2, 3] rfl)
        · replace hw := hw.2 hc
          clear hc
          refine lv_aload_n hx hb dX0_lay_82 rfl (lv_at hl 0 rfl) ?_
          refine va_get (D := (dC, dI)) (ci := 0) (C := RX0) (T := TX0) (N := 13) hx hb hts inw hown hK hP 0 rfl rfl 4 (by decide) f17 (fun _ h9 => h9) rfl dX0_lay_83 ?_
          refine lv_iload hx hb dX0_lay_86 (lv_at hl 3 rfl) ?_
          refine lv_dup2_11 hx hb dX0_lay_88 rfl rfl ?_
          obtain ⟨hin, hw⟩ := hw
          refine va_iald hx hb hK hP 2 1 rfl rfl hin dX0_lay_89 ?_
          refine lv_iload hx hb dX0_lay_90 (lv_at hl 2 rfl) ?_
          refine lv_ior hx hb dX0_lay_92 ?_
          obtain ⟨hin, hw⟩ := hw
          refine va_iast hx hb hK hP hD hS 2 1 rfl rfl hin dX0_lay_93 (fun H locs hP hD hS => ?_)
          obtain ⟨g_4, hg⟩ : ∃ z : Sg, z = up2 g 4 (x5).toNatClampNeg ((g 4 (x5).toNatClampNeg) ||| x4) := ⟨_, rfl⟩
          replace hw := hw g_4 hg
          have hP : va_P (dC, dI) vwCl (XL h ad ca tc cl tr g_4) H := by rw [hg]; exact hP
          have hD : va_D A (XL h ad ca tc cl tr g_4) := by rw [hg]; exact hD
          clear hg
          exact jn_94 _ x3 x4 x5 g_4 hB H locs ls hw hP hD hS (lv_sub hl [0, 1, 2, 3] rfl)
  subst hargs
  unfold wX_lay at hw
  have hl := lv_entry ([.ref h, .int x1, .int x2]) (n := 6) (Nat.le_of_ble_eq_true rfl)
  rw [lg_entry_eq]
  generalize (lg_sl ([.ref h, .int x1, .int x2]) ++ List.replicate (6 - (lg_sl ([.ref h, .int x1, .int x2])).length) Slot.unset).toArray = ls at hl ⊢
  have hl : lv_has ls 6 [(0, .ref h), (1, .int x1), (2, .int x2)] := hl
  obtain ⟨H, hHe⟩ : ∃ z : Heap, z = s.heap := ⟨_, rfl⟩
  obtain ⟨locs, hLe⟩ : ∃ z : List Loc, z = [] := ⟨_, rfl⟩
  have hS : va_S A s.heap H locs := by rw [hHe, hLe]; exact hS
  have hP : va_P (dC, dI) vwCl (XL h ad ca tc cl tr g) H := by rw [hHe]; exact hP
  have hgo : W p l e (headSpec wsX0_lay ({ frames := 1, cells := 0, slots := 0, locals := 21 })).room s m ([.ref h, .int x1, .int x2] : List Value).toArray below meth c H locs 0 0 (MQ below (va_Qi (fun (r : Int32) (u : Sg) => P r u) (at_X1 dC dI A h ad ca tc cl tr) A) ([.ref h, .int x1, .int x2] : List Value).toArray s 0 0 A) (F0 m 0 ls []) := by
    clear hHe hLe
    refine lv_aload_n hx hb dX0_lay_0 rfl (lv_at hl 0 rfl) ?_
    refine lv_iload_n hx hb dX0_lay_1 rfl (lv_at hl 1 rfl) ?_
    refine vp_callSi (W.runV (As := [.int x1]) (rest := []) ⟨hx, hb, hml, hown, hts⟩ (cX_isThing l dC dI h ad ca tc cl tr g x1 _ hw) (cwV 1 hts gX0_lay_X0_isThing rfl rfl rfl (by decide +kernel) ⟨Nat.le_of_ble_eq_true rfl, Nat.le_of_ble_eq_true rfl⟩) ⟨fun a U g mk q => by obtain ⟨q0, qP, qK⟩ := q; exact ⟨q0, qP, va_K.moved (u := U) (U := U.calling g mk a) (Vm.Alike.refl U.vm) qK⟩, va_recv hK hP (ci := 0) (q0 := 0) rfl rfl, fun U hU hW => ⟨rfl, by rw [hU]; exact hP, va_K.moved hW.alike hK⟩⟩ rfl rfl hl.1 rfl (lv_room (Nat.le_of_ble_eq_true rfl)) dX0_lay_2 ⟨Nat.zero_le _, Nat.zero_le _⟩) (fun r_5 hw => ?_)
    try dsimp only at hw
    refine lv_if_eq (tgt := 21) hx hb dX0_lay_5 (by decide) (fun hc => ?_) (fun hc => ?_)
    · replace hw := hw.1 hc
      clear hc
      refine lv_iconst (v := (-1 : Int32)) hx hb dX0_lay_21 (by decide) ?_
      exact W.iret (v := (-1 : Int32)) hx hb hr (fun t ht hW => ⟨⟨(-1 : Int32), g, rfl, hw, by rw [ht]; exact hP, va_K.moved hW.alike hK, hD⟩, hS.F ht⟩) hS.2.2 dX0_lay_22
    · replace hw := hw.2 hc
      clear hc
      refine lv_aload_n hx hb dX0_lay_8 rfl (lv_at hl 0 rfl) ?_
      refine lv_iload_n hx hb dX0_lay_9 rfl (lv_at hl 2 rfl) ?_
      refine vp_callSi (W.runV (As := [.int x2]) (rest := []) ⟨hx, hb, hml, hown, hts⟩ (cX_isThing l dC dI h ad ca tc cl tr g x2 _ hw) (cwV 1 hts gX0_lay_X0_isThing rfl rfl rfl (by decide +kernel) ⟨Nat.le_of_ble_eq_true rfl, Nat.le_of_ble_eq_true rfl⟩) ⟨fun a U g mk q => by obtain ⟨q0, qP, qK⟩ := q; exact ⟨q0, qP, va_K.moved (u := U) (U := U.calling g mk a) (Vm.Alike.refl U.vm) qK⟩, va_recv hK hP (ci := 0) (q0 := 0) rfl rfl, fun U hU hW => ⟨rfl, by rw [hU]; exact hP, va_K.moved hW.alike hK⟩⟩ rfl rfl hl.1 rfl (lv_room (Nat.le_of_ble_eq_true rfl)) dX0_lay_10 ⟨Nat.zero_le _, Nat.zero_le _⟩) (fun r_6 hw => ?_)
      try dsimp only at hw
      refine lv_if_eq (tgt := 21) hx hb dX0_lay_13 (by decide) (fun hc => ?_) (fun hc => ?_)
      · replace hw := hw.1 hc
        clear hc
        refine lv_iconst (v := (-1 : Int32)) hx hb dX0_lay_21 (by decide) ?_
        exact W.iret (v := (-1 : Int32)) hx hb hr (fun t ht hW => ⟨⟨(-1 : Int32), g, rfl, hw, by rw [ht]; exact hP, va_K.moved hW.alike hK, hD⟩, hS.F ht⟩) hS.2.2 dX0_lay_22
      · replace hw := hw.2 hc
        clear hc
        refine lv_iload_n hx hb dX0_lay_16 rfl (lv_at hl 1 rfl) ?_
        refine lv_iload_n hx hb dX0_lay_17 rfl (lv_at hl 2 rfl) ?_
        refine lv_icmp_lt (tgt := 23) hx hb dX0_lay_18 (by decide) (fun hc => ?_) (fun hc => ?_)
        · replace hw := hw.1 hc
          clear hc
          refine lv_aload_n hx hb dX0_lay_23 rfl (lv_at hl 0 rfl) ?_
          refine va_get (D := (dC, dI)) (ci := 0) (C := RX0) (T := TX0) (N := 13) hx hb hts inw hown hK hP 0 rfl rfl 3 (by decide) f13 (fun _ h9 => h9) rfl dX0_lay_24 ?_
          refine lv_iload_n hx hb dX0_lay_27 rfl (lv_at hl 2 rfl) ?_
          obtain ⟨hin, hw⟩ := hw
          refine va_iald hx hb hK hP 1 0 rfl rfl hin dX0_lay_28 ?_
          refine lv_iload_n hx hb dX0_lay_29 rfl (lv_at hl 1 rfl) ?_
          refine vp_callSi (W.runS (As := [.int ((g 3 (x2).toNatClampNeg)), .int x1]) (rest := []) ⟨hx, hb, hml, hown, hts⟩ (cX_has l (g 3 (x2).toNatClampNeg) x1 _ hw) (va_cwS 2 hts gX0_lay_X0_has rfl rfl rfl (by decide +kernel) ⟨Nat.le_of_ble_eq_true rfl, Nat.le_of_ble_eq_true rfl⟩) ⟨fun a U g mk q => q, fun U hU hW => ⟨rfl, trivial⟩⟩ rfl rfl hl.1 rfl (lv_room (Nat.le_of_ble_eq_true rfl)) dX0_lay_30 ⟨Nat.zero_le _, Nat.zero_le _⟩) (fun r_7 hw => ?_)
          try dsimp only at hw
          refine lv_if_eq (tgt := 38) hx hb dX0_lay_33 (by decide) (fun hc => ?_) (fun hc => ?_)
          · replace hw := hw.1 hc
            clear hc
            refine lv_aload_n hx hb dX0_lay_38 rfl (lv_at hl 0 rfl) ?_
            refine va_get (D := (dC, dI)) (ci := 0) (C := RX0) (T := TX0) (N := 13) hx hb hts inw hown hK hP 0 rfl rfl 3 (by decide) f13 (fun _ h9 => h9) rfl dX0_lay_39 ?_
            refine lv_iload_n hx hb dX0_lay_42 rfl (lv_at hl 1 rfl) ?_
            obtain ⟨hin, hw⟩ := hw
            refine va_iald hx hb hK hP 1 0 rfl rfl hin dX0_lay_43 ?_
            refine lv_iconst (v := (1 : Int32)) hx hb dX0_lay_44 (by decide) ?_
            refine lv_iload_n hx hb dX0_lay_45 rfl (lv_at hl 1 rfl) ?_
            refine lv_ishl hx hb dX0_lay_46 ?_
            refine lv_ior hx hb dX0_lay_47 ?_
            refine lv_topi (fun x3_8 hv => ?_)
            replace hw := hw x3_8 hv
            clear hv
            refine lv_istore_n (lv' := [(3, .int x3_8), (0, .ref h), (1, .int x1), (2, .int x2)]) hx hb dX0_lay_48 rfl hl (by decide) rfl (fun ls hl => ?_)
            refine lv_aload_n hx hb dX0_lay_49 rfl (lv_at hl 1 rfl) ?_
            refine va_get (D := (dC, dI)) (ci := 0) (C := RX0) (T := TX0) (N := 13) hx hb hts inw hown hK hP 0 rfl rfl 4 (by decide) f17 (fun _ h9 => h9) rfl dX0_lay_50 ?_
            refine lv_iload_n hx hb dX0_lay_53 rfl (lv_at hl 3 rfl) ?_
            obtain ⟨hin, hw⟩ := hw
            refine va_iald hx hb hK hP 2 1 rfl rfl hin dX0_lay_54 ?_
            refine lv_iconst (v := (1 : Int32)) hx hb dX0_lay_55 (by decide) ?_
            refine lv_iload_n hx hb dX0_lay_56 rfl (lv_at hl 3 rfl) ?_
            refine lv_ishl hx hb dX0_lay_57 ?_
            refine lv_ior hx hb dX0_lay_58 ?_
            refine lv_topi (fun x4_9 hv => ?_)
            replace hw := hw x4_9 hv
            clear hv
            refine lv_istore (lv' := [(4, .int x4_9), (3, .int x3_8), (0, .ref h), (1, .int x1), (2, .int x2)]) hx hb dX0_lay_59 hl (by decide) rfl (fun ls hl => ?_)
            refine lv_iconst (v := (0 : Int32)) hx hb dX0_lay_61 (by decide) ?_
            refine lv_istore (lv' := [(5, .int (0 : Int32)), (4, .int x4_9), (3, .int x3_8), (0, .ref h), (1, .int x1), (2, .int x2)]) hx hb dX0_lay_62 hl (by decide) rfl (fun ls hl => ?_)
            obtain ⟨n_10, hw⟩ := hw
            exact lp_64 x3_8 x4_9 n_10 (0 : Int32) g H locs ls hw hP hD hS (lv_sub hl [3, 2, 1, 0] rfl)
          · replace hw := hw.2 hc
            clear hc
            refine lv_iconst (v := (0 : Int32)) hx hb dX0_lay_36 (by decide) ?_
            exact W.iret (v := (0 : Int32)) hx hb hr (fun t ht hW => ⟨⟨(0 : Int32), g, rfl, hw, by rw [ht]; exact hP, va_K.moved hW.alike hK, hD⟩, hS.F ht⟩) hS.2.2 dX0_lay_37
        · replace hw := hw.2 hc
          clear hc
          refine lv_iconst (v := (-1 : Int32)) hx hb dX0_lay_21 (by decide) ?_
          exact W.iret (v := (-1 : Int32)) hx hb hr (fun t ht hW => ⟨⟨(-1 : Int32), g, rfl, hw, by rw [ht]; exact hP, va_K.moved hW.alike hK, hD⟩, hS.F ht⟩) hS.2.2 dX0_lay_22
  rw [hHe, hLe] at hgo
  exact hgo
-- X0_below
set_option maxHeartbeats 4000000 in
set_option maxRecDepth 100000 in
theorem cX_below (l : Launch) (dC : Nat → ClassId) (dI : Nat → Nat → Nat) (h : Nat) (ad : Nat → Nat) (ca : Nat → ClassId) (tc cl : Int32) (tr : Int64) (g : Sg) (x1 : Int32) (x2 : Int32) (P : Int32 → Prop) (hw : wX_below P tc cl tr g x1 x2) : Met l yX0_below wsX0_below ({ frames := 1, cells := 0, slots := 0, locals := 21 }) (va_Pc [.ref h, .int x1, .int x2] (fun U => va_P (dC, dI) vwCl (XL h ad ca tc cl tr g) U.heap ∧ va_K (dC, dI) vwCl (XT ca) U)) (vp_Si P) 0 0 (fun _ => False) := by
  refine Met.ofW (cc := cX0_below) (maxL := 3) (ret := (some .int)) (by decide) rfl ?_
  intro p e s m args below meth c s₁ B0 hml hv
  obtain ⟨hargs, hP, hK⟩ := hv
  have hx := B0.exec
  have hb := B0.bytes
  have hr := B0.returns
  have hts := atoms_spec (ws := wsX0_below) B0.pre
  have hown : s.vm.findClass RX0 = some m.cls := findClass_of_methodNamed B0.named
  have hlocks := B0.notSynchronized
  have inw : ∀ w ∈ wsX00, w ∈ wsX0_below := fun w h => List.mem_cons_of_mem _ (List.mem_append_right _ h)
  have f13 : (Cond.fieldLink RX0 13 "FlipHeaps" "under" "[I").before args s = true := hts _ (by decide +kernel)
  subst hargs
  unfold wX_below at hw
  have hl := lv_entry ([.ref h, .int x1, .int x2]) (n := 3) (Nat.le_of_ble_eq_true rfl)
  rw [lg_entry_eq]
  generalize (lg_sl ([.ref h, .int x1, .int x2]) ++ List.replicate (3 - (lg_sl ([.ref h, .int x1, .int x2])).length) Slot.unset).toArray = ls at hl ⊢
  have hl : lv_has ls 3 [(0, .ref h), (1, .int x1), (2, .int x2)] := hl
  refine lv_aload_n hx hb dX0_below_0 rfl (lv_at hl 0 rfl) ?_
  refine lv_iload_n hx hb dX0_below_1 rfl (lv_at hl 1 rfl) ?_
  refine vp_callSi (W.runV (As := [.int x1]) (rest := []) ⟨hx, hb, hml, hown, hts⟩ (cX_isThing l dC dI h ad ca tc cl tr g x1 _ hw) (cwV 1 hts gX0_below_X0_isThing rfl rfl rfl (by decide +kernel) ⟨Nat.le_of_ble_eq_true rfl, Nat.le_of_ble_eq_true rfl⟩) ⟨fun a U g mk q => by obtain ⟨q0, qP, qK⟩ := q; exact ⟨q0, qP, va_K.moved (u := U) (U := U.calling g mk a) (Vm.Alike.refl U.vm) qK⟩, va_recv hK hP (ci := 0) (q0 := 0) rfl rfl, fun U hU hW => ⟨rfl, by rw [hU]; exact hP, va_K.moved hW.alike hK⟩⟩ rfl rfl hl.1 rfl (lv_room (Nat.le_of_ble_eq_true rfl)) dX0_below_2 ⟨Nat.zero_le _, Nat.zero_le _⟩) (fun r_1 hw => ?_)
  try dsimp only at hw
  refine lv_if_eq (tgt := 16) hx hb dX0_below_5 (by decide) (fun hc => ?_) (fun hc => ?_)
  · replace hw := hw.1 hc
    clear hc
    refine lv_iconst (v := (-1 : Int32)) hx hb dX0_below_16 (by decide) ?_
    exact W.iret (v := (-1 : Int32)) hx hb hr (fun t ht hW => ⟨_, rfl, hw, ht⟩) (fun q h => absurd h List.not_mem_nil) dX0_below_17
  · replace hw := hw.2 hc
    clear hc
    refine lv_aload_n hx hb dX0_below_8 rfl (lv_at hl 0 rfl) ?_
    refine lv_iload_n hx hb dX0_below_9 rfl (lv_at hl 2 rfl) ?_
    refine vp_callSi (W.runV (As := [.int x2]) (rest := []) ⟨hx, hb, hml, hown, hts⟩ (cX_isThing l dC dI h ad ca tc cl tr g x2 _ hw) (cwV 1 hts gX0_below_X0_isThing rfl rfl rfl (by decide +kernel) ⟨Nat.le_of_ble_eq_true rfl, Nat.le_of_ble_eq_true rfl⟩) ⟨fun a U g mk q => by obtain ⟨q0, qP, qK⟩ := q; exact ⟨q0, qP, va_K.moved (u := U) (U := U.calling g mk a) (Vm.Alike.refl U.vm) qK⟩, va_recv hK hP (ci := 0) (q0 := 0) rfl rfl, fun U hU hW => ⟨rfl, by rw [hU]; exact hP, va_K.moved hW.alike hK⟩⟩ rfl rfl hl.1 rfl (lv_room (Nat.le_of_ble_eq_true rfl)) dX0_below_10 ⟨Nat.zero_le _, Nat.zero_le _⟩) (fun r_2 hw => ?_)
    try dsimp only at hw
    refine lv_if_ne (tgt := 18) hx hb dX0_below_13 (by decide) (fun hc => ?_) (fun hc => ?_)
    · replace hw := hw.1 hc
      clear hc
      refine lv_aload_n hx hb dX0_below_18 rfl (lv_at hl 0 rfl) ?_
      refine va_get (D := (dC, dI)) (ci := 0) (C := RX0) (T := TX0) (N := 13) hx hb hts inw hown hK hP 0 rfl rfl 3 (by decide) f13 (fun _ h9 => h9) rfl dX0_below_19 ?_
      refine lv_iload_n hx hb dX0_below_22 rfl (lv_at hl 2 rfl) ?_
      obtain ⟨hin, hw⟩ := hw
      refine va_iald hx hb hK hP 1 0 rfl rfl hin dX0_below_23 ?_
      refine lv_iload_n hx hb dX0_below_24 rfl (lv_at hl 1 rfl) ?_
      refine vp_callSi (W.runS (As := [.int ((g 3 (x2).toNatClampNeg)), .int x1]) (rest := []) ⟨hx, hb, hml, hown, hts⟩ (cX_has l (g 3 (x2).toNatClampNeg) x1 _ hw) (va_cwS 2 hts gX0_below_X0_has rfl rfl rfl (by decide +kernel) ⟨Nat.le_of_ble_eq_true rfl, Nat.le_of_ble_eq_true rfl⟩) ⟨fun a U g mk q => q, fun U hU hW => ⟨rfl, trivial⟩⟩ rfl rfl hl.1 rfl (lv_room (Nat.le_of_ble_eq_true rfl)) dX0_below_25 ⟨Nat.zero_le _, Nat.zero_le _⟩) (fun r_3 hw => ?_)
      try dsimp only at hw
      refine lv_if_eq (tgt := 35) hx hb dX0_below_28 (by decide) (fun hc => ?_) (fun hc => ?_)
      · replace hw := hw.1 hc
        clear hc
        refine lv_iconst (v := (0 : Int32)) hx hb dX0_below_35 (by decide) ?_
        exact W.iret (v := (0 : Int32)) hx hb hr (fun t ht hW => ⟨_, rfl, hw, ht⟩) (fun q h => absurd h List.not_mem_nil) dX0_below_36
      · replace hw := hw.2 hc
        clear hc
        refine lv_iconst (v := (1 : Int32)) hx hb dX0_below_31 (by decide) ?_
        refine lv_goto (tgt := 36) hx hb dX0_below_32 (by decide) ?_
        exact W.iret (v := (1 : Int32)) hx hb hr (fun t ht hW => ⟨_, rfl, hw, ht⟩) (fun q h => absurd h List.not_mem_nil) dX0_below_36
    · replace hw := hw.2 hc
      clear hc
      refine lv_iconst (v := (-1 : Int32)) hx hb dX0_below_16 (by decide) ?_
      exact W.iret (v := (-1 : Int32)) hx hb hr (fun t ht hW => ⟨_, rfl, hw, ht⟩) (fun q h => absurd h List.not_mem_nil) dX0_below_17
-- X0_weight
set_option maxHeartbeats 4000000 in
set_option maxRecDepth 100000 in
theorem cX_weight (l : Launch) (dC : Nat → ClassId) (dI : Nat → Nat → Nat) (h : Nat) (ad : Nat → Nat) (ca : Nat → ClassId) (sz : Nat) (tc cl : Int32) (tr : Int64) (g : Sg) (x1 : Int32) (x2 : Int32) (P : Int32 → Sg → Prop) (hw : wX_weight P tc cl tr g x1 x2) : Met l yX0_weight wsX0_weight ({ frames := 1, cells := 0, slots := 0, locals := 21 }) (va_Pc [.ref h, .int x1, .int x2] (fun U => U.heap.size = sz ∧ va_P (dC, dI) vwCl (XL h ad ca tc cl tr g) U.heap ∧ va_K (dC, dI) vwCl (XT ca) U ∧ va_D (fun _ => True) (XL h ad ca tc cl tr g))) (va_Qi (fun (r : Int32) (u : Sg) => P r u) (at_X1 dC dI (va_A (XL h ad ca tc cl tr g) sz) h ad ca tc cl tr) (va_A (XL h ad ca tc cl tr g) sz)) 0 0 (va_A (XL h ad ca tc cl tr g) sz) := by
  refine Met.ofW (cc := cX0_weight) (maxL := 4) (ret := (some .int)) (by decide) rfl ?_
  intro p e s m args below meth c s₁ B0 hml hv
  obtain ⟨hargs, hsz, hP, hK, hD0⟩ := hv
  have hx := B0.exec
  have hb := B0.bytes
  have hr := B0.returns
  have hts := atoms_spec (ws := wsX0_weight) B0.pre
  have hown : s.vm.findClass RX0 = some m.cls := findClass_of_methodNamed B0.named
  have hlocks := B0.notSynchronized
  have inw : ∀ w ∈ wsX00, w ∈ wsX0_weight := fun w h => List.mem_cons_of_mem _ (List.mem_append_right _ h)
  have f20 : (Cond.fieldLink RX0 20 "FlipHeaps" "weights" "[I").before args s = true := hts _ (by decide +kernel)
  have k56 : (Cond.constant RX0 56 (-1000000)).before args s = true := hts _ (by decide +kernel)
  subst hsz
  have hD := hD0.self (sz := s.heap.size)
  generalize hAe : va_A (XL h ad ca tc cl tr g) s.heap.size = A at hD ⊢
  have hA : ∀ q : Nat, s.heap.size ≤ q → A q := fun q h => by rw [← hAe]; exact Or.inr h
  clear hAe hD0
  have hS : va_S A s.heap s.heap [] := va_S.rf
  subst hargs
  unfold wX_weight at hw
  have hl := lv_entry ([.ref h, .int x1, .int x2]) (n := 4) (Nat.le_of_ble_eq_true rfl)
  rw [lg_entry_eq]
  generalize (lg_sl ([.ref h, .int x1, .int x2]) ++ List.replicate (4 - (lg_sl ([.ref h, .int x1, .int x2])).length) Slot.unset).toArray = ls at hl ⊢
  have hl : lv_has ls 4 [(0, .ref h), (1, .int x1), (2, .int x2)] := hl
  obtain ⟨H, hHe⟩ : ∃ z : Heap, z = s.heap := ⟨_, rfl⟩
  obtain ⟨locs, hLe⟩ : ∃ z : List Loc, z = [] := ⟨_, rfl⟩
  have hS : va_S A s.heap H locs := by rw [hHe, hLe]; exact hS
  have hP : va_P (dC, dI) vwCl (XL h ad ca tc cl tr g) H := by rw [hHe]; exact hP
  have hgo : W p l e (headSpec wsX0_weight ({ frames := 1, cells := 0, slots := 0, locals := 21 })).room s m ([.ref h, .int x1, .int x2] : List Value).toArray below meth c H locs 0 0 (MQ below (va_Qi (fun (r : Int32) (u : Sg) => P r u) (at_X1 dC dI A h ad ca tc cl tr) A) ([.ref h, .int x1, .int x2] : List Value).toArray s 0 0 A) (F0 m 0 ls []) := by
    clear hHe hLe
    refine lv_aload_n hx hb dX0_weight_0 rfl (lv_at hl 0 rfl) ?_
    refine lv_iload_n hx hb dX0_weight_1 rfl (lv_at hl 1 rfl) ?_
    refine vp_callSi (W.runV (As := [.int x1]) (rest := []) ⟨hx, hb, hml, hown, hts⟩ (cX_isThing l dC dI h ad ca tc cl tr g x1 _ hw) (cwV 1 hts gX0_weight_X0_isThing rfl rfl rfl (by decide +kernel) ⟨Nat.le_of_ble_eq_true rfl, Nat.le_of_ble_eq_true rfl⟩) ⟨fun a U g mk q => by obtain ⟨q0, qP, qK⟩ := q; exact ⟨q0, qP, va_K.moved (u := U) (U := U.calling g mk a) (Vm.Alike.refl U.vm) qK⟩, va_recv hK hP (ci := 0) (q0 := 0) rfl rfl, fun U hU hW => ⟨rfl, by rw [hU]; exact hP, va_K.moved hW.alike hK⟩⟩ rfl rfl hl.1 rfl (lv_room (Nat.le_of_ble_eq_true rfl)) dX0_weight_2 ⟨Nat.zero_le _, Nat.zero_le _⟩) (fun r_1 hw => ?_)
    try dsimp only at hw
    refine lv_if_eq (tgt := 20) hx hb dX0_weight_5 (by decide) (fun hc => ?_) (fun hc => ?_)
    · replace hw := hw.1 hc
      clear hc
      refine lv_ldc (v := (-1000000 : Int32)) hx hb hown k56 dX0_weight_20 ?_
      exact W.iret (v := (-1000000 : Int32)) hx hb hr (fun t ht hW => ⟨⟨(-1000000 : Int32), g, rfl, hw, by rw [ht]; exact hP, va_K.moved hW.alike hK, hD⟩, hS.F ht⟩) hS.2.2 dX0_weight_22
    · replace hw := hw.2 hc
      clear hc
      refine lv_iload_n hx hb dX0_weight_8 rfl (lv_at hl 2 rfl) ?_
      refine lv_bipush (v := (-9 : Int32)) hx hb dX0_weight_9 (by decide) ?_
      refine lv_icmp_lt (tgt := 20) hx hb dX0_weight_11 (by decide) (fun hc => ?_) (fun hc => ?_)
      · replace hw := hw.1 hc
        clear hc
        refine lv_ldc (v := (-1000000 : Int32)) hx hb hown k56 dX0_weight_20 ?_
        exact W.iret (v := (-1000000 : Int32)) hx hb hr (fun t ht hW => ⟨⟨(-1000000 : Int32), g, rfl, hw, by rw [ht]; exact hP, va_K.moved hW.alike hK, hD⟩, hS.F ht⟩) hS.2.2 dX0_weight_22
      · replace hw := hw.2 hc
        clear hc
        refine lv_iload_n hx hb dX0_weight_14 rfl (lv_at hl 2 rfl) ?_
        refine lv_bipush (v := (9 : Int32)) hx hb dX0_weight_15 (by decide) ?_
        refine lv_icmp_le (tgt := 23) hx hb dX0_weight_17 (by decide) (fun hc => ?_) (fun hc => ?_)
        · replace hw := hw.1 hc
          clear hc
          refine lv_aload_n hx hb dX0_weight_23 rfl (lv_at hl 0 rfl) ?_
          refine va_get (D := (dC, dI)) (ci := 0) (C := RX0) (T := TX0) (N := 13) hx hb hts inw hown hK hP 0 rfl rfl 5 (by decide) f20 (fun _ h9 => h9) rfl dX0_weight_24 ?_
          refine lv_iload_n hx hb dX0_weight_27 rfl (lv_at hl 1 rfl) ?_
          obtain ⟨hin, hw⟩ := hw
          refine va_iald hx hb hK hP 3 2 rfl rfl hin dX0_weight_28 ?_
          refine lv_topi (fun x3_2 hv => ?_)
          replace hw := hw x3_2 hv
          clear hv
          refine lv_istore_n (lv' := [(3, .int x3_2), (0, .ref h), (1, .int x1), (2, .int x2)]) hx hb dX0_weight_29 rfl hl (by decide) rfl (fun ls hl => ?_)
          refine lv_aload_n hx hb dX0_weight_30 rfl (lv_at hl 1 rfl) ?_
          refine va_get (D := (dC, dI)) (ci := 0) (C := RX0) (T := TX0) (N := 13) hx hb hts inw hown hK hP 0 rfl rfl 5 (by decide) f20 (fun _ h9 => h9) rfl dX0_weight_31 ?_
          refine lv_iload_n hx hb dX0_weight_34 rfl (lv_at hl 2 rfl) ?_
          refine lv_iload_n hx hb dX0_weight_35 rfl (lv_at hl 3 rfl) ?_
          obtain ⟨hin, hw⟩ := hw
          refine va_iast hx hb hK hP hD hS 3 2 rfl rfl hin dX0_weight_36 (fun H locs hP hD hS => ?_)
          obtain ⟨g_3, hg⟩ : ∃ z : Sg, z = up2 g 5 (x1).toNatClampNeg x2 := ⟨_, rfl⟩
          replace hw := hw g_3 hg
          have hP : va_P (dC, dI) vwCl (XL h ad ca tc cl tr g_3) H := by rw [hg]; exact hP
          have hD : va_D A (XL h ad ca tc cl tr g_3) := by rw [hg]; exact hD
          clear hg
          refine lv_iload_n hx hb dX0_weight_37 rfl (lv_at hl 0 rfl) ?_
          exact W.iret (v := x3_2) hx hb hr (fun t ht hW => ⟨⟨x3_2, g_3, rfl, hw, by rw [ht]; exact hP, va_K.moved hW.alike hK, hD⟩, hS.F ht⟩) hS.2.2 dX0_weight_38
        · replace hw := hw.2 hc
          clear hc
          refine lv_ldc (v := (-1000000 : Int32)) hx hb hown k56 dX0_weight_20 ?_
          exact W.iret (v := (-1000000 : Int32)) hx hb hr (fun t ht hW => ⟨⟨(-1000000 : Int32), g, rfl, hw, by rw [ht]; exact hP, va_K.moved hW.alike hK, hD⟩, hS.F ht⟩) hS.2.2 dX0_weight_22
  rw [hHe, hLe] at hgo
  exact hgo
-- X0_say
set_option maxHeartbeats 4000000 in
set_option maxRecDepth 100000 in
theorem cX_say (l : Launch) (dC : Nat → ClassId) (dI : Nat → Nat → Nat) (h : Nat) (ad : Nat → Nat) (ca : Nat → ClassId) (sz : Nat) (tc cl : Int32) (tr : Int64) (g : Sg) (x1 : Int32) (P : Int32 → Int32 → Int32 → Int64 → Sg → Prop) (hw : wX_say P tc cl tr g x1) : Met l yX0_say wsX0_say ({ frames := 1, cells := 0, slots := 0, locals := 21 }) (va_Pc [.ref h, .int x1] (fun U => U.heap.size = sz ∧ va_P (dC, dI) vwCl (XL h ad ca tc cl tr g) U.heap ∧ va_K (dC, dI) vwCl (XT ca) U ∧ va_D (fun _ => True) (XL h ad ca tc cl tr g))) (va_Qi (fun (r : Int32) (u : Int32 × Int32 × Int64 × Sg) => P r u.1 u.2.1 u.2.2.1 u.2.2.2) (at_X2 dC dI (va_A (XL h ad ca tc cl tr g) sz) h ad ca) (va_A (XL h ad ca tc cl tr g) sz)) 0 0 (va_A (XL h ad ca tc cl tr g) sz) := by
  refine Met.ofW (cc := cX0_say) (maxL := 2) (ret := (some .int)) (by decide) rfl ?_
  intro p e s m args below meth c s₁ B0 hml hv
  obtain ⟨hargs, hsz, hP, hK, hD0⟩ := hv
  have hx := B0.exec
  have hb := B0.bytes
  have hr := B0.returns
  have hts := atoms_spec (ws := wsX0_say) B0.pre
  have hown : s.vm.findClass RX0 = some m.cls := findClass_of_methodNamed B0.named
  have hlocks := B0.notSynchronized
  have inw : ∀ w ∈ wsX00, w ∈ wsX0_say := fun w h => List.mem_cons_of_mem _ (List.mem_append_right _ h)
  have f23 : (Cond.fieldLink RX0 23 "FlipHeaps" "chain" "[I").before args s = true := hts _ (by decide +kernel)
  have f45 : (Cond.fieldLink RX0 45 "FlipHeaps" "chainLength" "I").before args s = true := hts _ (by decide +kernel)
  subst hsz
  have hD := hD0.self (sz := s.heap.size)
  generalize hAe : va_A (XL h ad ca tc cl tr g) s.heap.size = A at hD ⊢
  have hA : ∀ q : Nat, s.heap.size ≤ q → A q := fun q h => by rw [← hAe]; exact Or.inr h
  clear hAe hD0
  have hS : va_S A s.heap s.heap [] := va_S.rf
  subst hargs
  unfold wX_say at hw
  have hl := lv_entry ([.ref h, .int x1]) (n := 2) (Nat.le_of_ble_eq_true rfl)
  rw [lg_entry_eq]
  generalize (lg_sl ([.ref h, .int x1]) ++ List.replicate (2 - (lg_sl ([.ref h, .int x1])).length) Slot.unset).toArray = ls at hl ⊢
  have hl : lv_has ls 2 [(0, .ref h), (1, .int x1)] := hl
  obtain ⟨H, hHe⟩ : ∃ z : Heap, z = s.heap := ⟨_, rfl⟩
  obtain ⟨locs, hLe⟩ : ∃ z : List Loc, z = [] := ⟨_, rfl⟩
  have hS : va_S A s.heap H locs := by rw [hHe, hLe]; exact hS
  have hP : va_P (dC, dI) vwCl (XL h ad ca tc cl tr g) H := by rw [hHe]; exact hP
  have hgo : W p l e (headSpec wsX0_say ({ frames := 1, cells := 0, slots := 0, locals := 21 })).room s m ([.ref h, .int x1] : List Value).toArray below meth c H locs 0 0 (MQ below (va_Qi (fun (r : Int32) (u : Int32 × Int32 × Int64 × Sg) => P r u.1 u.2.1 u.2.2.1 u.2.2.2) (at_X2 dC dI A h ad ca) A) ([.ref h, .int x1] : List Value).toArray s 0 0 A) (F0 m 0 ls []) := by
    clear hHe hLe
    refine lv_aload_n hx hb dX0_say_0 rfl (lv_at hl 0 rfl) ?_
    refine lv_iload_n hx hb dX0_say_1 rfl (lv_at hl 1 rfl) ?_
    refine vp_callSi (W.runV (As := [.int x1]) (rest := []) ⟨hx, hb, hml, hown, hts⟩ (cX_isThing l dC dI h ad ca tc cl tr g x1 _ hw) (cwV 1 hts gX0_say_X0_isThing rfl rfl rfl (by decide +kernel) ⟨Nat.le_of_ble_eq_true rfl, Nat.le_of_ble_eq_true rfl⟩) ⟨fun a U g mk q => by obtain ⟨q0, qP, qK⟩ := q; exact ⟨q0, qP, va_K.moved (u := U) (U := U.calling g mk a) (Vm.Alike.refl U.vm) qK⟩, va_recv hK hP (ci := 0) (q0 := 0) rfl rfl, fun U hU hW => ⟨rfl, by rw [hU]; exact hP, va_K.moved hW.alike hK⟩⟩ rfl rfl hl.1 rfl (lv_room (Nat.le_of_ble_eq_true rfl)) dX0_say_2 ⟨Nat.zero_le _, Nat.zero_le _⟩) (fun r_1 hw => ?_)
    try dsimp only at hw
    refine lv_if_ne (tgt := 10) hx hb dX0_say_5 (by decide) (fun hc => ?_) (fun hc => ?_)
    · replace hw := hw.1 hc
      clear hc
      refine lv_aload_n hx hb dX0_say_10 rfl (lv_at hl 0 rfl) ?_
      refine va_get (D := (dC, dI)) (ci := 0) (C := RX0) (T := TX0) (N := 13) hx hb hts inw hown hK hP 0 rfl rfl 1 (by decide) f45 (fun _ h9 => h9) rfl dX0_say_11 ?_
      refine lv_bipush (v := (16 : Int32)) hx hb dX0_say_14 (by decide) ?_
      refine lv_icmp_lt (tgt := 22) hx hb dX0_say_16 (by decide) (fun hc => ?_) (fun hc => ?_)
      · replace hw := hw.1 hc
        clear hc
        refine lv_aload_n hx hb dX0_say_22 rfl (lv_at hl 0 rfl) ?_
        refine va_get (D := (dC, dI)) (ci := 0) (C := RX0) (T := TX0) (N := 13) hx hb hts inw hown hK hP 0 rfl rfl 6 (by decide) f23 (fun _ h9 => h9) rfl dX0_say_23 ?_
        refine lv_aload_n hx hb dX0_say_26 rfl (lv_at hl 0 rfl) ?_
        refine va_get (D := (dC, dI)) (ci := 0) (C := RX0) (T := TX0) (N := 13) hx hb hts inw hown hK hP 0 rfl rfl 1 (by decide) f45 (fun _ h9 => h9) rfl dX0_say_27 ?_
        refine lv_iload_n hx hb dX0_say_30 rfl (lv_at hl 1 rfl) ?_
        obtain ⟨hin, hw⟩ := hw
        refine va_iast hx hb hK hP hD hS 4 3 rfl rfl hin dX0_say_31 (fun H locs hP hD hS => ?_)
        obtain ⟨g_2, hg⟩ : ∃ z : Sg, z = up2 g 6 (cl).toNatClampNeg x1 := ⟨_, rfl⟩
        replace hw := hw g_2 hg
        have hP : va_P (dC, dI) vwCl (XL h ad ca tc cl tr g_2) H := by rw [hg]; exact hP
        have hD : va_D A (XL h ad ca tc cl tr g_2) := by rw [hg]; exact hD
        clear hg
        refine lv_aload_n hx hb dX0_say_32 rfl (lv_at hl 0 rfl) ?_
        refine lv_dup hx hb dX0_say_33 rfl ?_
        refine va_get (D := (dC, dI)) (ci := 0) (C := RX0) (T := TX0) (N := 13) hx hb hts inw hown hK hP 0 rfl rfl 1 (by decide) f45 (fun _ h9 => h9) rfl dX0_say_34 ?_
        refine lv_iconst (v := (1 : Int32)) hx hb dX0_say_37 (by decide) ?_
        refine lv_iadd hx hb dX0_say_38 ?_
        refine lv_topi (fun cl_3 hv => ?_)
        replace hw := hw cl_3 hv
        clear hv
        refine va_put (D := (dC, dI)) (ci := 0) (v := .int cl_3) (ty := .int) (C := RX0) (T := TX0) (N := 13) hx hb hts inw tyX0 tyX0_ok nmX0 hown hK hP hD hS 0 rfl rfl 1 (by decide) f45 (fun _ h9 => h9) rfl (by decide +kernel) rfl rfl (Nat.le_of_ble_eq_true rfl) dX0_say_39 (fun H locs hP hD hS => ?_)
        have hP : va_P (dC, dI) vwCl (XL h ad ca tc cl_3 tr g_2) H := hP
        have hD : va_D A (XL h ad ca tc cl_3 tr g_2) := hD
        refine lv_aload_n hx hb dX0_say_42 rfl (lv_at hl 0 rfl) ?_
        refine va_get (D := (dC, dI)) (ci := 0) (C := RX0) (T := TX0) (N := 13) hx hb hts inw hown hK hP 0 rfl rfl 1 (by decide) f45 (fun _ h9 => h9) rfl dX0_say_43 ?_
        exact W.iret (v := cl_3) hx hb hr (fun t ht hW => ⟨⟨cl_3, (tc, cl_3, tr, g_2), rfl, hw, by rw [ht]; exact hP, va_K.moved hW.alike hK, hD⟩, hS.F ht⟩) hS.2.2 dX0_say_46
      · replace hw := hw.2 hc
        clear hc
        refine lv_bipush (v := (-3 : Int32)) hx hb dX0_say_19 (by decide) ?_
        exact W.iret (v := (-3 : Int32)) hx hb hr (fun t ht hW => ⟨⟨(-3 : Int32), (tc, cl, tr, g), rfl, hw, by rw [ht]; exact hP, va_K.moved hW.alike hK, hD⟩, hS.F ht⟩) hS.2.2 dX0_say_21
    · replace hw := hw.2 hc
      clear hc
      refine lv_iconst (v := (-1 : Int32)) hx hb dX0_say_8 (by decide) ?_
      exact W.iret (v := (-1 : Int32)) hx hb hr (fun t ht hW => ⟨⟨(-1 : Int32), (tc, cl, tr, g), rfl, hw, by rw [ht]; exact hP, va_K.moved hW.alike hK, hD⟩, hS.F ht⟩) hS.2.2 dX0_say_9
  rw [hHe, hLe] at hgo
  exact hgo
-- X0_hush
set_option maxHeartbeats 4000000 in
set_option maxRecDepth 100000 in
theorem cX_hush (l : Launch) (dC : Nat → ClassId) (dI : Nat → Nat → Nat) (h : Nat) (ad : Nat → Nat) (ca : Nat → ClassId) (sz : Nat) (tc cl : Int32) (tr : Int64) (g : Sg) (P : Int32 → Int32 → Int32 → Int64 → Sg → Prop) (hw : wX_hush P tc cl tr g) : Met l yX0_hush wsX0_hush ({ frames := 0, cells := 0, slots := 0, locals := 0 }) (va_Pc [.ref h] (fun U => U.heap.size = sz ∧ va_P (dC, dI) vwCl (XL h ad ca tc cl tr g) U.heap ∧ va_K (dC, dI) vwCl (XT ca) U ∧ va_D (fun _ => True) (XL h ad ca tc cl tr g))) (va_Qi (fun (r : Int32) (u : Int32 × Int32 × Int64 × Sg) => P r u.1 u.2.1 u.2.2.1 u.2.2.2) (at_X2 dC dI (va_A (XL h ad ca tc cl tr g) sz) h ad ca) (va_A (XL h ad ca tc cl tr g) sz)) 0 0 (va_A (XL h ad ca tc cl tr g) sz) := by
  refine Met.ofW (cc := cX0_hush) (maxL := 2) (ret := (some .int)) (by decide) rfl ?_
  intro p e s m args below meth c s₁ B0 hml hv
  obtain ⟨hargs, hsz, hP, hK, hD0⟩ := hv
  have hx := B0.exec
  have hb := B0.bytes
  have hr := B0.returns
  have hts := atoms_spec (ws := wsX0_hush) B0.pre
  have hown : s.vm.findClass RX0 = some m.cls := findClass_of_methodNamed B0.named
  have hlocks := B0.notSynchronized
  have inw : ∀ w ∈ wsX00, w ∈ wsX0_hush := fun w h => List.mem_cons_of_mem _ (List.mem_append_right _ h)
  have f45 : (Cond.fieldLink RX0 45 "FlipHeaps" "chainLength" "I").before args s = true := hts _ (by decide +kernel)
  subst hsz
  have hD := hD0.self (sz := s.heap.size)
  generalize hAe : va_A (XL h ad ca tc cl tr g) s.heap.size = A at hD ⊢
  have hA : ∀ q : Nat, s.heap.size ≤ q → A q := fun q h => by rw [← hAe]; exact Or.inr h
  clear hAe hD0
  have hS : va_S A s.heap s.heap [] := va_S.rf
  subst hargs
  unfold wX_hush at hw
  have hl := lv_entry ([.ref h]) (n := 2) (Nat.le_of_ble_eq_true rfl)
  rw [lg_entry_eq]
  generalize (lg_sl ([.ref h]) ++ List.replicate (2 - (lg_sl ([.ref h])).length) Slot.unset).toArray = ls at hl ⊢
  have hl : lv_has ls 2 [(0, .ref h)] := hl
  obtain ⟨H, hHe⟩ : ∃ z : Heap, z = s.heap := ⟨_, rfl⟩
  obtain ⟨locs, hLe⟩ : ∃ z : List Loc, z = [] := ⟨_, rfl⟩
  have hS : va_S A s.heap H locs := by rw [hHe, hLe]; exact hS
  have hP : va_P (dC, dI) vwCl (XL h ad ca tc cl tr g) H := by rw [hHe]; exact hP
  have hgo : W p l e (headSpec wsX0_hush ({ frames := 0, cells := 0, slots := 0, locals := 0 })).room s m ([.ref h] : List Value).toArray below meth c H locs 0 0 (MQ below (va_Qi (fun (r : Int32) (u : Int32 × Int32 × Int64 × Sg) => P r u.1 u.2.1 u.2.2.1 u.2.2.2) (at_X2 dC dI A h ad ca) A) ([.ref h] : List Value).toArray s 0 0 A) (F0 m 0 ls []) := by
    clear hHe hLe
    refine lv_aload_n hx hb dX0_hush_0 rfl (lv_at hl 0 rfl) ?_
    refine va_get (D := (dC, dI)) (ci := 0) (C := RX0) (T := TX0) (N := 13) hx hb hts inw hown hK hP 0 rfl rfl 1 (by decide) f45 (fun _ h9 => h9) rfl dX0_hush_1 ?_
    refine lv_istore_n (lv' := [(1, .int cl), (0, .ref h)]) hx hb dX0_hush_4 rfl hl (by decide) rfl (fun ls hl => ?_)
    refine lv_aload_n hx hb dX0_hush_5 rfl (lv_at hl 1 rfl) ?_
    refine lv_iconst (v := (0 : Int32)) hx hb dX0_hush_6 (by decide) ?_
    refine va_put (D := (dC, dI)) (ci := 0) (v := .int (0 : Int32)) (ty := .int) (C := RX0) (T := TX0) (N := 13) hx hb hts inw tyX0 tyX0_ok nmX0 hown hK hP hD hS 0 rfl rfl 1 (by decide) f45 (fun _ h9 => h9) rfl (by decide +kernel) rfl rfl (Nat.le_of_ble_eq_true rfl) dX0_hush_7 (fun H locs hP hD hS => ?_)
    have hP : va_P (dC, dI) vwCl (XL h ad ca tc (0 : Int32) tr g) H := hP
    have hD : va_D A (XL h ad ca tc (0 : Int32) tr g) := hD
    refine lv_iload_n hx hb dX0_hush_10 rfl (lv_at hl 0 rfl) ?_
    exact W.iret (v := cl) hx hb hr (fun t ht hW => ⟨⟨cl, (tc, (0 : Int32), tr, g), rfl, hw, by rw [ht]; exact hP, va_K.moved hW.alike hK, hD⟩, hS.F ht⟩) hS.2.2 dX0_hush_11
  rw [hHe, hLe] at hgo
  exact hgo
-- X0_setCount
set_option maxHeartbeats 4000000 in
set_option maxRecDepth 100000 in
theorem cX_setCount (l : Launch) (dC : Nat → ClassId) (dI : Nat → Nat → Nat) (h : Nat) (ad : Nat → Nat) (ca : Nat → ClassId) (tc cl : Int32) (tr : Int64) (g : Sg) (P : Int32 → Prop) (hw : wX_setCount P tc cl tr g) : Met l yX0_setCount wsX0_setCount ({ frames := 0, cells := 0, slots := 0, locals := 0 }) (va_Pc [.ref h] (fun U => va_P (dC, dI) vwCl (XL h ad ca tc cl tr g) U.heap ∧ va_K (dC, dI) vwCl (XT ca) U)) (vp_Si P) 0 0 (fun _ => False) := by
  refine Met.ofW (cc := cX0_setCount) (maxL := 1) (ret := (some .int)) (by decide) rfl ?_
  intro p e s m args below meth c s₁ B0 hml hv
  obtain ⟨hargs, hP, hK⟩ := hv
  have hx := B0.exec
  have hb := B0.bytes
  have hr := B0.returns
  have hts := atoms_spec (ws := wsX0_setCount) B0.pre
  have hown : s.vm.findClass RX0 = some m.cls := findClass_of_methodNamed B0.named
  have hlocks := B0.notSynchronized
  have inw : ∀ w ∈ wsX00, w ∈ wsX0_setCount := fun w h => List.mem_cons_of_mem _ (List.mem_append_right _ h)
  have f9 : (Cond.fieldLink RX0 9 "FlipHeaps" "thingCount" "I").before args s = true := hts _ (by decide +kernel)
  subst hargs
  unfold wX_setCount at hw
  have hl := lv_entry ([.ref h]) (n := 1) (Nat.le_of_ble_eq_true rfl)
  rw [lg_entry_eq]
  generalize (lg_sl ([.ref h]) ++ List.replicate (1 - (lg_sl ([.ref h])).length) Slot.unset).toArray = ls at hl ⊢
  have hl : lv_has ls 1 [(0, .ref h)] := hl
  refine lv_iconst (v := (1 : Int32)) hx hb dX0_setCount_0 (by decide) ?_
  refine lv_aload_n hx hb dX0_setCount_1 rfl (lv_at hl 0 rfl) ?_
  refine va_get (D := (dC, dI)) (ci := 0) (C := RX0) (T := TX0) (N := 13) hx hb hts inw hown hK hP 0 rfl rfl 0 (by decide) f9 (fun _ h9 => h9) rfl dX0_setCount_2 ?_
  refine lv_ishl hx hb dX0_setCount_5 ?_
  exact W.iret (v := ((1 : Int32) <<< (tc &&& 31))) hx hb hr (fun t ht hW => ⟨_, rfl, hw, ht⟩) (fun q h => absurd h List.not_mem_nil) dX0_setCount_6
-- X0_isSet
set_option maxHeartbeats 4000000 in
set_option maxRecDepth 100000 in
theorem cX_isSet (l : Launch) (dC : Nat → ClassId) (dI : Nat → Nat → Nat) (h : Nat) (ad : Nat → Nat) (ca : Nat → ClassId) (tc cl : Int32) (tr : Int64) (g : Sg) (x1 : Int32) (P : Int32 → Prop) (hw : wX_isSet P tc cl tr g x1) : Met l yX0_isSet wsX0_isSet ({ frames := 1, cells := 0, slots := 0, locals := 20 }) (va_Pc [.ref h, .int x1] (fun U => va_P (dC, dI) vwCl (XL h ad ca tc cl tr g) U.heap ∧ va_K (dC, dI) vwCl (XT ca) U)) (vp_Si P) 0 0 (fun _ => False) := by
  refine Met.ofW (cc := cX0_isSet) (maxL := 2) (ret := (some .boolean)) (by decide) rfl ?_
  intro p e s m args below meth c s₁ B0 hml hv
  obtain ⟨hargs, hP, hK⟩ := hv
  have hx := B0.exec
  have hb := B0.bytes
  have hr := B0.returns
  have hts := atoms_spec (ws := wsX0_isSet) B0.pre
  have hown : s.vm.findClass RX0 = some m.cls := findClass_of_methodNamed B0.named
  have hlocks := B0.notSynchronized
  have inw : ∀ w ∈ wsX00, w ∈ wsX0_isSet := fun w h => List.mem_cons_of_mem _ (List.mem_append_right _ h)
  subst hargs
  unfold wX_isSet at hw
  have hl := lv_entry ([.ref h, .int x1]) (n := 2) (Nat.le_of_ble_eq_true rfl)
  rw [lg_entry_eq]
  generalize (lg_sl ([.ref h, .int x1]) ++ List.replicate (2 - (lg_sl ([.ref h, .int x1])).length) Slot.unset).toArray = ls at hl ⊢
  have hl : lv_has ls 2 [(0, .ref h), (1, .int x1)] := hl
  refine lv_iload_n hx hb dX0_isSet_0 rfl (lv_at hl 1 rfl) ?_
  refine lv_if_lt (tgt := 16) hx hb dX0_isSet_1 (by decide) (fun hc => ?_) (fun hc => ?_)
  · replace hw := hw.1 hc
    clear hc
    refine lv_iconst (v := (0 : Int32)) hx hb dX0_isSet_16 (by decide) ?_
    exact W.zret (v := (0 : Int32)) hx hb hr rfl (fun t ht hW => ⟨_, rfl, hw, ht⟩) (fun q h => absurd h List.not_mem_nil) dX0_isSet_17
  · replace hw := hw.2 hc
    clear hc
    refine lv_iload_n hx hb dX0_isSet_4 rfl (lv_at hl 1 rfl) ?_
    refine lv_aload_n hx hb dX0_isSet_5 rfl (lv_at hl 0 rfl) ?_
    refine vp_callSi (W.runV (As := []) (rest := [.int x1]) ⟨hx, hb, hml, hown, hts⟩ (cX_setCount l dC dI h ad ca tc cl tr g _ hw) (cwV 0 hts gX0_isSet_X0_setCount rfl rfl rfl (by decide +kernel) ⟨Nat.le_of_ble_eq_true rfl, Nat.le_of_ble_eq_true rfl⟩) ⟨fun a U g mk q => by obtain ⟨q0, qP, qK⟩ := q; exact ⟨q0, qP, va_K.moved (u := U) (U := U.calling g mk a) (Vm.Alike.refl U.vm) qK⟩, va_recv hK hP (ci := 0) (q0 := 0) rfl rfl, fun U hU hW => ⟨rfl, by rw [hU]; exact hP, va_K.moved hW.alike hK⟩⟩ rfl rfl hl.1 rfl (lv_room (Nat.le_of_ble_eq_true rfl)) dX0_isSet_6 ⟨Nat.zero_le _, Nat.zero_le _⟩) (fun r_1 hw => ?_)
    try dsimp only at hw
    refine lv_icmp_ge (tgt := 16) hx hb dX0_isSet_9 (by decide) (fun hc => ?_) (fun hc => ?_)
    · replace hw := hw.1 hc
      clear hc
      refine lv_iconst (v := (0 : Int32)) hx hb dX0_isSet_16 (by decide) ?_
      exact W.zret (v := (0 : Int32)) hx hb hr rfl (fun t ht hW => ⟨_, rfl, hw, ht⟩) (fun q h => absurd h List.not_mem_nil) dX0_isSet_17
    · replace hw := hw.2 hc
      clear hc
      refine lv_iconst (v := (1 : Int32)) hx hb dX0_isSet_12 (by decide) ?_
      refine lv_goto (tgt := 17) hx hb dX0_isSet_13 (by decide) ?_
      exact W.zret (v := (1 : Int32)) hx hb hr rfl (fun t ht hW => ⟨_, rfl, hw, ht⟩) (fun q h => absurd h List.not_mem_nil) dX0_isSet_17
-- X0_isHeap
set_option maxHeartbeats 4000000 in
set_option maxRecDepth 100000 in
theorem cX_isHeap (l : Launch) (dC : Nat → ClassId) (dI : Nat → Nat → Nat) (h : Nat) (ad : Nat → Nat) (ca : Nat → ClassId) (tc cl : Int32) (tr : Int64) (g : Sg) (x1 : Int32) (P : Int32 → Prop) (hw : wX_isHeap P tc cl tr g x1) : Met l yX0_isHeap wsX0_isHeap ({ frames := 2, cells := 0, slots := 0, locals := 41 }) (va_Pc [.ref h, .int x1] (fun U => va_P (dC, dI) vwCl (XL h ad ca tc cl tr g) U.heap ∧ va_K (dC, dI) vwCl (XT ca) U)) (vp_Si P) 0 0 (fun _ => False) := by
  refine Met.ofW (cc := cX0_isHeap) (maxL := 3) (ret := (some .boolean)) (by decide) rfl ?_
  intro p e s m args below meth c s₁ B0 hml hv
  obtain ⟨hargs, hP, hK⟩ := hv
  have hx := B0.exec
  have hb := B0.bytes
  have hr := B0.returns
  have hts := atoms_spec (ws := wsX0_isHeap) B0.pre
  have hown : s.vm.findClass RX0 = some m.cls := findClass_of_methodNamed B0.named
  have hlocks := B0.notSynchronized
  have inw : ∀ w ∈ wsX00, w ∈ wsX0_isHeap := fun w h => List.mem_cons_of_mem _ (List.mem_append_right _ h)
  have f9 : (Cond.fieldLink RX0 9 "FlipHeaps" "thingCount" "I").before args s = true := hts _ (by decide +kernel)
  have f13 : (Cond.fieldLink RX0 13 "FlipHeaps" "under" "[I").before args s = true := hts _ (by decide +kernel)
  have lp_12 : ∀ (x1 : Int32), ∀ (n : Nat) (x2 : Int32) (ls : Array Slot), Lp1 (wX_isHeap_b12 P tc cl tr g x1) n x2 → lv_has ls 3 [(0, .ref h), (1, .int x1), (2, .int x2)] → W p l e (headSpec wsX0_isHeap ({ frames := 2, cells := 0, slots := 0, locals := 41 })).room s m args below meth c s.heap [] 0 0 (MQ below (vp_Si P) args s 0 0 (fun _ => False)) (F0 m 12 ls []) := by
    intro x1
    intro n
    induction n with
    | zero => intro x2 ls hw; exact False.elim hw
    | succ n hB =>
      intro x2 ls hw hl
      replace hw : wX_isHeap_b12 P tc cl tr g x1 (Lp1 (wX_isHeap_b12 P tc cl tr g x1) n) x2 := hw
      unfold wX_isHeap_b12 at hw
      refine lv_iload_n hx hb dX0_isHeap_12 rfl (lv_at hl 2 rfl) ?_
      refine lv_aload_n hx hb dX0_isHeap_13 rfl (lv_at hl 0 rfl) ?_
      refine va_get (D := (dC, dI)) (ci := 0) (C := RX0) (T := TX0) (N := 13) hx hb hts inw hown hK hP 0 rfl rfl 0 (by decide) f9 (fun _ h9 => h9) rfl dX0_isHeap_14 ?_
      refine lv_icmp_ge (tgt := 49) hx hb dX0_isHeap_17 (by decide) (fun hc => ?_) (fun hc => ?_)
      · replace hw := hw.1 hc
        clear hc
        refine lv_iconst (v := (1 : Int32)) hx hb dX0_isHeap_49 (by decide) ?_
        exact W.zret (v := (1 : Int32)) hx hb hr rfl (fun t ht hW => ⟨_, rfl, hw, ht⟩) (fun q h => absurd h List.not_mem_nil) dX0_isHeap_50
      · replace hw := hw.2 hc
        clear hc
        refine lv_iload_n hx hb dX0_isHeap_20 rfl (lv_at hl 1 rfl) ?_
        refine lv_iload_n hx hb dX0_isHeap_21 rfl (lv_at hl 2 rfl) ?_
        refine vp_callSi (W.runS (As := [.int x1, .int x2]) (rest := []) ⟨hx, hb, hml, hown, hts⟩ (cX_has l x1 x2 _ hw) (va_cwS 2 hts gX0_isHeap_X0_has rfl rfl rfl (by decide +kernel) ⟨Nat.le_of_ble_eq_true rfl, Nat.le_of_ble_eq_true rfl⟩) ⟨fun a U g mk q => q, fun U hU hW => ⟨rfl, trivial⟩⟩ rfl rfl hl.1 rfl (lv_room (Nat.le_of_ble_eq_true rfl)) dX0_isHeap_22 ⟨Nat.zero_le _, Nat.zero_le _⟩) (fun r_1 hw => ?_)
        try dsimp only at hw
        refine lv_if_eq (tgt := 43) hx hb dX0_isHeap_25 (by decide) (fun hc => ?_) (fun hc => ?_)
        · replace hw := hw.1 hc
          clear hc
          refine lv_iinc (v := (x2 + 1)) (lv' := [(2, .int ((x2 + 1))), (0, .ref h), (1, .int x1)]) hx hb dX0_isHeap_43 hl (k := 2) rfl rfl (by decide) rfl (fun ls hl => ?_)
          refine lv_goto (tgt := 12) hx hb dX0_isHeap_46 (by decide) ?_
          exact hB (x2 + 1) ls hw (lv_sub hl [1, 2, 0] rfl)
        · replace hw := hw.2 hc
          clear hc
          refine lv_aload_n hx hb dX0_isHeap_28 rfl (lv_at hl 0 rfl) ?_
          refine va_get (D := (dC, dI)) (ci := 0) (C := RX0) (T := TX0) (N := 13) hx hb hts inw hown hK hP 0 rfl rfl 3 (by decide) f13 (fun _ h9 => h9) rfl dX0_isHeap_29 ?_
          refine lv_iload_n hx hb dX0_isHeap_32 rfl (lv_at hl 2 rfl) ?_
          obtain ⟨hin, hw⟩ := hw
          refine va_iald hx hb hK hP 1 0 rfl rfl hin dX0_isHeap_33 ?_
          refine lv_iload_n hx hb dX0_isHeap_34 rfl (lv_at hl 1 rfl) ?_
          refine lv_iconst (v := (-1 : Int32)) hx hb dX0_isHeap_35 (by decide) ?_
          refine lv_ixor hx hb dX0_isHeap_36 ?_
          refine lv_iand hx hb dX0_isHeap_37 ?_
          refine lv_if_eq (tgt := 43) hx hb dX0_isHeap_38 (by decide) (fun hc => ?_) (fun hc => ?_)
          · replace hw := hw.1 hc
            clear hc
            refine lv_iinc (v := (x2 + 1)) (lv' := [(2, .int ((x2 + 1))), (0, .ref h), (1, .int x1)]) hx hb dX0_isHeap_43 hl (k := 2) rfl rfl (by decide) rfl (fun ls hl => ?_)
            refine lv_goto (tgt := 12) hx hb dX0_isHeap_46 (by decide) ?_
            exact hB (x2 + 1) ls hw (lv_sub hl [1, 2, 0] rfl)
          · replace hw := hw.2 hc
            clear hc
            refine lv_iconst (v := (0 : Int32)) hx hb dX0_isHeap_41 (by decide) ?_
            exact W.zret (v := (0 : Int32)) hx hb hr rfl (fun t ht hW => ⟨_, rfl, hw, ht⟩) (fun q h => absurd h List.not_mem_nil) dX0_isHeap_42
  subst hargs
  unfold wX_isHeap at hw
  have hl := lv_entry ([.ref h, .int x1]) (n := 3) (Nat.le_of_ble_eq_true rfl)
  rw [lg_entry_eq]
  generalize (lg_sl ([.ref h, .int x1]) ++ List.replicate (3 - (lg_sl ([.ref h, .int x1])).length) Slot.unset).toArray = ls at hl ⊢
  have hl : lv_has ls 3 [(0, .ref h), (1, .int x1)] := hl
  refine lv_aload_n hx hb dX0_isHeap_0 rfl (lv_at hl 0 rfl) ?_
  refine lv_iload_n hx hb dX0_isHeap_1 rfl (lv_at hl 1 rfl) ?_
  refine vp_callSi (W.runV (As := [.int x1]) (rest := []) ⟨hx, hb, hml, hown, hts⟩ (cX_isSet l dC dI h ad ca tc cl tr g x1 _ hw) (cwV 1 hts gX0_isHeap_X0_isSet rfl rfl rfl (by decide +kernel) ⟨Nat.le_of_ble_eq_true rfl, Nat.le_of_ble_eq_true rfl⟩) ⟨fun a U g mk q => by obtain ⟨q0, qP, qK⟩ := q; exact ⟨q0, qP, va_K.moved (u := U) (U := U.calling g mk a) (Vm.Alike.refl U.vm) qK⟩, va_recv hK hP (ci := 0) (q0 := 0) rfl rfl, fun U hU hW => ⟨rfl, by rw [hU]; exact hP, va_K.moved hW.alike hK⟩⟩ rfl rfl hl.1 rfl (lv_room (Nat.le_of_ble_eq_true rfl)) dX0_isHeap_2 ⟨Nat.zero_le _, Nat.zero_le _⟩) (fun r_2 hw => ?_)
  try dsimp only at hw
  refine lv_if_ne (tgt := 10) hx hb dX0_isHeap_5 (by decide) (fun hc => ?_) (fun hc => ?_)
  · replace hw := hw.1 hc
    clear hc
    refine lv_iconst (v := (0 : Int32)) hx hb dX0_isHeap_10 (by decide) ?_
    refine lv_istore_n (lv' := [(2, .int (0 : Int32)), (0, .ref h), (1, .int x1)]) hx hb dX0_isHeap_11 rfl hl (by decide) rfl (fun ls hl => ?_)
    obtain ⟨n_3, hw⟩ := hw
    exact lp_12 x1 n_3 (0 : Int32) ls hw (lv_sub hl [1, 2, 0] rfl)
  · replace hw := hw.2 hc
    clear hc
    refine lv_iconst (v := (0 : Int32)) hx hb dX0_isHeap_8 (by decide) ?_
    exact W.zret (v := (0 : Int32)) hx hb hr rfl (fun t ht hW => ⟨_, rfl, hw, ht⟩) (fun q h => absurd h List.not_mem_nil) dX0_isHeap_9
-- X0_heap
set_option maxHeartbeats 4000000 in
set_option maxRecDepth 100000 in
theorem cX_heap (l : Launch) (dC : Nat → ClassId) (dI : Nat → Nat → Nat) (h : Nat) (ad : Nat → Nat) (ca : Nat → ClassId) (tc cl : Int32) (tr : Int64) (g : Sg) (x1 : Int32) (P : Int32 → Prop) (hw : wX_heap P tc cl tr g x1) : Met l yX0_heap wsX0_heap ({ frames := 3, cells := 0, slots := 0, locals := 63 }) (va_Pc [.ref h, .int x1] (fun U => va_P (dC, dI) vwCl (XL h ad ca tc cl tr g) U.heap ∧ va_K (dC, dI) vwCl (XT ca) U)) (vp_Si P) 0 0 (fun _ => False) := by
  refine Met.ofW (cc := cX0_heap) (maxL := 2) (ret := (some .int)) (by decide) rfl ?_
  intro p e s m args below meth c s₁ B0 hml hv
  obtain ⟨hargs, hP, hK⟩ := hv
  have hx := B0.exec
  have hb := B0.bytes
  have hr := B0.returns
  have hts := atoms_spec (ws := wsX0_heap) B0.pre
  have hown : s.vm.findClass RX0 = some m.cls := findClass_of_methodNamed B0.named
  have hlocks := B0.notSynchronized
  have inw : ∀ w ∈ wsX00, w ∈ wsX0_heap := fun w h => List.mem_cons_of_mem _ (List.mem_append_right _ h)
  subst hargs
  unfold wX_heap at hw
  have hl := lv_entry ([.ref h, .int x1]) (n := 2) (Nat.le_of_ble_eq_true rfl)
  rw [lg_entry_eq]
  generalize (lg_sl ([.ref h, .int x1]) ++ List.replicate (2 - (lg_sl ([.ref h, .int x1])).length) Slot.unset).toArray = ls at hl ⊢
  have hl : lv_has ls 2 [(0, .ref h), (1, .int x1)] := hl
  refine lv_aload_n hx hb dX0_heap_0 rfl (lv_at hl 0 rfl) ?_
  refine lv_iload_n hx hb dX0_heap_1 rfl (lv_at hl 1 rfl) ?_
  refine vp_callSi (W.runV (As := [.int x1]) (rest := []) ⟨hx, hb, hml, hown, hts⟩ (cX_isSet l dC dI h ad ca tc cl tr g x1 _ hw) (cwV 1 hts gX0_heap_X0_isSet rfl rfl rfl (by decide +kernel) ⟨Nat.le_of_ble_eq_true rfl, Nat.le_of_ble_eq_true rfl⟩) ⟨fun a U g mk q => by obtain ⟨q0, qP, qK⟩ := q; exact ⟨q0, qP, va_K.moved (u := U) (U := U.calling g mk a) (Vm.Alike.refl U.vm) qK⟩, va_recv hK hP (ci := 0) (q0 := 0) rfl rfl, fun U hU hW => ⟨rfl, by rw [hU]; exact hP, va_K.moved hW.alike hK⟩⟩ rfl rfl hl.1 rfl (lv_room (Nat.le_of_ble_eq_true rfl)) dX0_heap_2 ⟨Nat.zero_le _, Nat.zero_le _⟩) (fun r_1 hw => ?_)
  try dsimp only at hw
  refine lv_if_ne (tgt := 10) hx hb dX0_heap_5 (by decide) (fun hc => ?_) (fun hc => ?_)
  · replace hw := hw.1 hc
    clear hc
    refine lv_aload_n hx hb dX0_heap_10 rfl (lv_at hl 0 rfl) ?_
    refine lv_iload_n hx hb dX0_heap_11 rfl (lv_at hl 1 rfl) ?_
    refine vp_callSi (W.runV (As := [.int x1]) (rest := []) ⟨hx, hb, hml, hown, hts⟩ (cX_isHeap l dC dI h ad ca tc cl tr g x1 _ hw) (cwV 1 hts gX0_heap_X0_isHeap rfl rfl rfl (by decide +kernel) ⟨Nat.le_of_ble_eq_true rfl, Nat.le_of_ble_eq_true rfl⟩) ⟨fun a U g mk q => by obtain ⟨q0, qP, qK⟩ := q; exact ⟨q0, qP, va_K.moved (u := U) (U := U.calling g mk a) (Vm.Alike.refl U.vm) qK⟩, va_recv hK hP (ci := 0) (q0 := 0) rfl rfl, fun U hU hW => ⟨rfl, by rw [hU]; exact hP, va_K.moved hW.alike hK⟩⟩ rfl rfl hl.1 rfl (lv_room (Nat.le_of_ble_eq_true rfl)) dX0_heap_12 ⟨Nat.zero_le _, Nat.zero_le _⟩) (fun r_2 hw => ?_)
    try dsimp only at hw
    refine lv_if_eq (tgt := 22) hx hb dX0_heap_15 (by decide) (fun hc => ?_) (fun hc => ?_)
    · replace hw := hw.1 hc
      clear hc
      refine lv_iconst (v := (0 : Int32)) hx hb dX0_heap_22 (by decide) ?_
      exact W.iret (v := (0 : Int32)) hx hb hr (fun t ht hW => ⟨_, rfl, hw, ht⟩) (fun q h => absurd h List.not_mem_nil) dX0_heap_23
    · replace hw := hw.2 hc
      clear hc
      refine lv_iconst (v := (1 : Int32)) hx hb dX0_heap_18 (by decide) ?_
      refine lv_goto (tgt := 23) hx hb dX0_heap_19 (by decide) ?_
      exact W.iret (v := (1 : Int32)) hx hb hr (fun t ht hW => ⟨_, rfl, hw, ht⟩) (fun q h => absurd h List.not_mem_nil) dX0_heap_23
  · replace hw := hw.2 hc
    clear hc
    refine lv_iconst (v := (-1 : Int32)) hx hb dX0_heap_8 (by decide) ?_
    exact W.iret (v := (-1 : Int32)) hx hb hr (fun t ht hW => ⟨_, rfl, hw, ht⟩) (fun q h => absurd h List.not_mem_nil) dX0_heap_9
-- X0_many
set_option maxHeartbeats 4000000 in
set_option maxRecDepth 100000 in
theorem cX_many (l : Launch) (dC : Nat → ClassId) (dI : Nat → Nat → Nat) (h : Nat) (ad : Nat → Nat) (ca : Nat → ClassId) (tc cl : Int32) (tr : Int64) (g : Sg) (P : Int32 → Prop) (hw : wX_many P tc cl tr g) : Met l yX0_many wsX0_many ({ frames := 3, cells := 0, slots := 0, locals := 63 }) (va_Pc [.ref h] (fun U => va_P (dC, dI) vwCl (XL h ad ca tc cl tr g) U.heap ∧ va_K (dC, dI) vwCl (XT ca) U)) (vp_Si P) 0 0 (fun _ => False) := by
  refine Met.ofW (cc := cX0_many) (maxL := 3) (ret := (some .int)) (by decide) rfl ?_
  intro p e s m args below meth c s₁ B0 hml hv
  obtain ⟨hargs, hP, hK⟩ := hv
  have hx := B0.exec
  have hb := B0.bytes
  have hr := B0.returns
  have hts := atoms_spec (ws := wsX0_many) B0.pre
  have hown : s.vm.findClass RX0 = some m.cls := findClass_of_methodNamed B0.named
  have hlocks := B0.notSynchronized
  have inw : ∀ w ∈ wsX00, w ∈ wsX0_many := fun w h => List.mem_cons_of_mem _ (List.mem_append_right _ h)
  have lp_4 : ∀ (n : Nat) (x1 : Int32) (x2 : Int32) (ls : Array Slot), Lp2 (wX_many_b4 P tc cl tr g) n x1 x2 → lv_has ls 3 [(0, .ref h), (1, .int x1), (2, .int x2)] → W p l e (headSpec wsX0_many ({ frames := 3, cells := 0, slots := 0, locals := 63 })).room s m args below meth c s.heap [] 0 0 (MQ below (vp_Si P) args s 0 0 (fun _ => False)) (F0 m 4 ls []) := by
    intro n
    induction n with
    | zero => intro x1 x2 ls hw; exact False.elim hw
    | succ n hB =>
      intro x1 x2 ls hw hl
      replace hw : wX_many_b4 P tc cl tr g (Lp2 (wX_many_b4 P tc cl tr g) n) x1 x2 := hw
      unfold wX_many_b4 at hw
      refine lv_iload_n hx hb dX0_many_4 rfl (lv_at hl 2 rfl) ?_
      refine lv_aload_n hx hb dX0_many_5 rfl (lv_at hl 0 rfl) ?_
      refine vp_callSi (W.runV (As := []) (rest := [.int x2]) ⟨hx, hb, hml, hown, hts⟩ (cX_setCount l dC dI h ad ca tc cl tr g _ hw) (cwV 0 hts gX0_many_X0_setCount rfl rfl rfl (by decide +kernel) ⟨Nat.le_of_ble_eq_true rfl, Nat.le_of_ble_eq_true rfl⟩) ⟨fun a U g mk q => by obtain ⟨q0, qP, qK⟩ := q; exact ⟨q0, qP, va_K.moved (u := U) (U := U.calling g mk a) (Vm.Alike.refl U.vm) qK⟩, va_recv hK hP (ci := 0) (q0 := 0) rfl rfl, fun U hU hW => ⟨rfl, by rw [hU]; exact hP, va_K.moved hW.alike hK⟩⟩ rfl rfl hl.1 rfl (lv_room (Nat.le_of_ble_eq_true rfl)) dX0_many_6 ⟨Nat.zero_le _, Nat.zero_le _⟩) (fun r_1 hw => ?_)
      try dsimp only at hw
      refine lv_icmp_ge (tgt := 29) hx hb dX0_many_9 (by decide) (fun hc => ?_) (fun hc => ?_)
      · replace hw := hw.1 hc
        clear hc
        refine lv_iload_n hx hb dX0_many_29 rfl (lv_at hl 1 rfl) ?_
        exact W.iret (v := x1) hx hb hr (fun t ht hW => ⟨_, rfl, hw, ht⟩) (fun q h => absurd h List.not_mem_nil) dX0_many_30
      · replace hw := hw.2 hc
        clear hc
        refine lv_aload_n hx hb dX0_many_12 rfl (lv_at hl 0 rfl) ?_
        refine lv_iload_n hx hb dX0_many_13 rfl (lv_at hl 2 rfl) ?_
        refine vp_callSi (W.runV (As := [.int x2]) (rest := []) ⟨hx, hb, hml, hown, hts⟩ (cX_isHeap l dC dI h ad ca tc cl tr g x2 _ hw) (cwV 1 hts gX0_many_X0_isHeap rfl rfl rfl (by decide +kernel) ⟨Nat.le_of_ble_eq_true rfl, Nat.le_of_ble_eq_true rfl⟩) ⟨fun a U g mk q => by obtain ⟨q0, qP, qK⟩ := q; exact ⟨q0, qP, va_K.moved (u := U) (U := U.calling g mk a) (Vm.Alike.refl U.vm) qK⟩, va_recv hK hP (ci := 0) (q0 := 0) rfl rfl, fun U hU hW => ⟨rfl, by rw [hU]; exact hP, va_K.moved hW.alike hK⟩⟩ rfl rfl hl.1 rfl (lv_room (Nat.le_of_ble_eq_true rfl)) dX0_many_14 ⟨Nat.zero_le _, Nat.zero_le _⟩) (fun r_2 hw => ?_)
        try dsimp only at hw
        refine lv_if_eq (tgt := 23) hx hb dX0_many_17 (by decide) (fun hc => ?_) (fun hc => ?_)
        · replace hw := hw.1 hc
          clear hc
          refine lv_iinc (v := (x2 + 1)) (lv' := [(2, .int ((x2 + 1))), (0, .ref h), (1, .int x1)]) hx hb dX0_many_23 hl (k := 2) rfl rfl (by decide) rfl (fun ls hl => ?_)
          refine lv_goto (tgt := 4) hx hb dX0_many_26 (by decide) ?_
          exact hB x1 (x2 + 1) ls hw (lv_sub hl [1, 2, 0] rfl)
        · replace hw := hw.2 hc
          clear hc
          refine lv_iinc (v := (x1 + 1)) (lv' := [(1, .int ((x1 + 1))), (0, .ref h), (2, .int x2)]) hx hb dX0_many_20 hl (k := 1) rfl rfl (by decide) rfl (fun ls hl => ?_)
          refine lv_iinc (v := (x2 + 1)) (lv' := [(2, .int ((x2 + 1))), (1, .int ((x1 + 1))), (0, .ref h)]) hx hb dX0_many_23 hl (k := 2) rfl rfl (by decide) rfl (fun ls hl => ?_)
          refine lv_goto (tgt := 4) hx hb dX0_many_26 (by decide) ?_
          exact hB (x1 + 1) (x2 + 1) ls hw (lv_sub hl [2, 1, 0] rfl)
  subst hargs
  unfold wX_many at hw
  have hl := lv_entry ([.ref h]) (n := 3) (Nat.le_of_ble_eq_true rfl)
  rw [lg_entry_eq]
  generalize (lg_sl ([.ref h]) ++ List.replicate (3 - (lg_sl ([.ref h])).length) Slot.unset).toArray = ls at hl ⊢
  have hl : lv_has ls 3 [(0, .ref h)] := hl
  refine lv_iconst (v := (0 : Int32)) hx hb dX0_many_0 (by decide) ?_
  refine lv_istore_n (lv' := [(1, .int (0 : Int32)), (0, .ref h)]) hx hb dX0_many_1 rfl hl (by decide) rfl (fun ls hl => ?_)
  refine lv_iconst (v := (0 : Int32)) hx hb dX0_many_2 (by decide) ?_
  refine lv_istore_n (lv' := [(2, .int (0 : Int32)), (1, .int (0 : Int32)), (0, .ref h)]) hx hb dX0_many_3 rfl hl (by decide) rfl (fun ls hl => ?_)
  obtain ⟨n_3, hw⟩ := hw
  exact lp_4 n_3 (0 : Int32) (0 : Int32) ls hw (lv_sub hl [2, 1, 0] rfl)
-- X0_flipped
set_option maxHeartbeats 4000000 in
set_option maxRecDepth 100000 in
theorem cX_flipped (l : Launch) (dC : Nat → ClassId) (dI : Nat → Nat → Nat) (h : Nat) (ad : Nat → Nat) (ca : Nat → ClassId) (tc cl : Int32) (tr : Int64) (g : Sg) (x1 : Int32) (x2 : Int32) (P : Int32 → Prop) (hw : wX_flipped P tc cl tr g x1 x2) : Met l yX0_flipped wsX0_flipped ({ frames := 1, cells := 0, slots := 0, locals := 21 }) (va_Pc [.ref h, .int x1, .int x2] (fun U => va_P (dC, dI) vwCl (XL h ad ca tc cl tr g) U.heap ∧ va_K (dC, dI) vwCl (XT ca) U)) (vp_Si P) 0 0 (fun _ => False) := by
  refine Met.ofW (cc := cX0_flipped) (maxL := 4) (ret := (some .int)) (by decide) rfl ?_
  intro p e s m args below meth c s₁ B0 hml hv
  obtain ⟨hargs, hP, hK⟩ := hv
  have hx := B0.exec
  have hb := B0.bytes
  have hr := B0.returns
  have hts := atoms_spec (ws := wsX0_flipped) B0.pre
  have hown : s.vm.findClass RX0 = some m.cls := findClass_of_methodNamed B0.named
  have hlocks := B0.notSynchronized
  have inw : ∀ w ∈ wsX00, w ∈ wsX0_flipped := fun w h => List.mem_cons_of_mem _ (List.mem_append_right _ h)
  have f13 : (Cond.fieldLink RX0 13 "FlipHeaps" "under" "[I").before args s = true := hts _ (by decide +kernel)
  have f17 : (Cond.fieldLink RX0 17 "FlipHeaps" "over" "[I").before args s = true := hts _ (by decide +kernel)
  have jn_29 : ∀ (x1 : Int32) (x2 : Int32) (y0 : Int32) (ls : Array Slot), wX_flipped_j29 P tc cl tr g x1 x2 y0 → lv_has ls 4 [(0, .ref h), (1, .int x1), (2, .int x2)] → W p l e (headSpec wsX0_flipped ({ frames := 1, cells := 0, slots := 0, locals := 21 })).room s m args below meth c s.heap [] 0 0 (MQ below (vp_Si P) args s 0 0 (fun _ => False)) (F0 m 29 ls [.int y0]) := by
    intro x1 x2 y0 ls hw hl
    unfold wX_flipped_j29 at hw
    refine lv_istore_n (lv' := [(3, .int y0), (0, .ref h), (1, .int x1), (2, .int x2)]) hx hb dX0_flipped_29 rfl hl (by decide) rfl (fun ls hl => ?_)
    refine lv_iload_n hx hb dX0_flipped_30 rfl (lv_at hl 0 rfl) ?_
    refine lv_if_ne (tgt := 42) hx hb dX0_flipped_31 (by decide) (fun hc => ?_) (fun hc => ?_)
    · replace hw := hw.1 hc
      clear hc
      refine lv_iload_n hx hb dX0_flipped_42 rfl (lv_at hl 2 rfl) ?_
      exact W.iret (v := x1) hx hb hr (fun t ht hW => ⟨_, rfl, hw, ht⟩) (fun q h => absurd h List.not_mem_nil) dX0_flipped_43
    · replace hw := hw.2 hc
      clear hc
      refine lv_iload_n hx hb dX0_flipped_34 rfl (lv_at hl 2 rfl) ?_
      refine lv_iconst (v := (1 : Int32)) hx hb dX0_flipped_35 (by decide) ?_
      refine lv_iload_n hx hb dX0_flipped_36 rfl (lv_at hl 3 rfl) ?_
      refine lv_ishl hx hb dX0_flipped_37 ?_
      refine lv_ixor hx hb dX0_flipped_38 ?_
      refine lv_goto (tgt := 43) hx hb dX0_flipped_39 (by decide) ?_
      exact W.iret (v := (x1 ^^^ ((1 : Int32) <<< (x2 &&& 31)))) hx hb hr (fun t ht hW => ⟨_, rfl, hw, ht⟩) (fun q h => absurd h List.not_mem_nil) dX0_flipped_43
  subst hargs
  unfold wX_flipped at hw
  have hl := lv_entry ([.ref h, .int x1, .int x2]) (n := 4) (Nat.le_of_ble_eq_true rfl)
  rw [lg_entry_eq]
  generalize (lg_sl ([.ref h, .int x1, .int x2]) ++ List.replicate (4 - (lg_sl ([.ref h, .int x1, .int x2])).length) Slot.unset).toArray = ls at hl ⊢
  have hl : lv_has ls 4 [(0, .ref h), (1, .int x1), (2, .int x2)] := hl
  refine lv_iload_n hx hb dX0_flipped_0 rfl (lv_at hl 1 rfl) ?_
  refine lv_iload_n hx hb dX0_flipped_1 rfl (lv_at hl 2 rfl) ?_
  refine vp_callSi (W.runS (As := [.int x1, .int x2]) (rest := []) ⟨hx, hb, hml, hown, hts⟩ (cX_has l x1 x2 _ hw) (va_cwS 2 hts gX0_flipped_X0_has rfl rfl rfl (by decide +kernel) ⟨Nat.le_of_ble_eq_true rfl, Nat.le_of_ble_eq_true rfl⟩) ⟨fun a U g mk q => q, fun U hU hW => ⟨rfl, trivial⟩⟩ rfl rfl hl.1 rfl (lv_room (Nat.le_of_ble_eq_true rfl)) dX0_flipped_2 ⟨Nat.zero_le _, Nat.zero_le _⟩) (fun r_1 hw => ?_)
  try dsimp only at hw
  refine lv_if_eq (tgt := 19) hx hb dX0_flipped_5 (by decide) (fun hc => ?_) (fun hc => ?_)
  · replace hw := hw.1 hc
    clear hc
    refine lv_aload_n hx hb dX0_flipped_19 rfl (lv_at hl 0 rfl) ?_
    refine va_get (D := (dC, dI)) (ci := 0) (C := RX0) (T := TX0) (N := 13) hx hb hts inw hown hK hP 0 rfl rfl 3 (by decide) f13 (fun _ h9 => h9) rfl dX0_flipped_20 ?_
    refine lv_iload_n hx hb dX0_flipped_23 rfl (lv_at hl 2 rfl) ?_
    obtain ⟨hin, hw⟩ := hw
    refine va_iald hx hb hK hP 1 0 rfl rfl hin dX0_flipped_24 ?_
    refine lv_iload_n hx hb dX0_flipped_25 rfl (lv_at hl 1 rfl) ?_
    refine lv_iconst (v := (-1 : Int32)) hx hb dX0_flipped_26 (by decide) ?_
    refine lv_ixor hx hb dX0_flipped_27 ?_
    refine lv_iand hx hb dX0_flipped_28 ?_
    exact jn_29 x1 x2 ((g 3 (x2).toNatClampNeg) &&& (x1 ^^^ (-1 : Int32))) ls hw (lv_sub hl [0, 1, 2] rfl)
  · replace hw := hw.2 hc
    clear hc
    refine lv_aload_n hx hb dX0_flipped_8 rfl (lv_at hl 0 rfl) ?_
    refine va_get (D := (dC, dI)) (ci := 0) (C := RX0) (T := TX0) (N := 13) hx hb hts inw hown hK hP 0 rfl rfl 4 (by decide) f17 (fun _ h9 => h9) rfl dX0_flipped_9 ?_
    refine lv_iload_n hx hb dX0_flipped_12 rfl (lv_at hl 2 rfl) ?_
    obtain ⟨hin, hw⟩ := hw
    refine va_iald hx hb hK hP 2 1 rfl rfl hin dX0_flipped_13 ?_
    refine lv_iload_n hx hb dX0_flipped_14 rfl (lv_at hl 1 rfl) ?_
    refine lv_iand hx hb dX0_flipped_15 ?_
    refine lv_goto (tgt := 29) hx hb dX0_flipped_16 (by decide) ?_
    exact jn_29 x1 x2 ((g 4 (x2).toNatClampNeg) &&& x1) ls hw (lv_sub hl [0, 1, 2] rfl)
-- X0_flip
set_option maxHeartbeats 4000000 in
set_option maxRecDepth 100000 in
theorem cX_flip (l : Launch) (dC : Nat → ClassId) (dI : Nat → Nat → Nat) (h : Nat) (ad : Nat → Nat) (ca : Nat → ClassId) (tc cl : Int32) (tr : Int64) (g : Sg) (x1 : Int32) (x2 : Int32) (P : Int32 → Prop) (hw : wX_flip P tc cl tr g x1 x2) : Met l yX0_flip wsX0_flip ({ frames := 3, cells := 0, slots := 0, locals := 63 }) (va_Pc [.ref h, .int x1, .int x2] (fun U => va_P (dC, dI) vwCl (XL h ad ca tc cl tr g) U.heap ∧ va_K (dC, dI) vwCl (XT ca) U)) (vp_Si P) 0 0 (fun _ => False) := by
  refine Met.ofW (cc := cX0_flip) (maxL := 3) (ret := (some .int)) (by decide) rfl ?_
  intro p e s m args below meth c s₁ B0 hml hv
  obtain ⟨hargs, hP, hK⟩ := hv
  have hx := B0.exec
  have hb := B0.bytes
  have hr := B0.returns
  have hts := atoms_spec (ws := wsX0_flip) B0.pre
  have hown : s.vm.findClass RX0 = some m.cls := findClass_of_methodNamed B0.named
  have hlocks := B0.notSynchronized
  have inw : ∀ w ∈ wsX00, w ∈ wsX0_flip := fun w h => List.mem_cons_of_mem _ (List.mem_append_right _ h)
  subst hargs
  unfold wX_flip at hw
  have hl := lv_entry ([.ref h, .int x1, .int x2]) (n := 3) (Nat.le_of_ble_eq_true rfl)
  rw [lg_entry_eq]
  generalize (lg_sl ([.ref h, .int x1, .int x2]) ++ List.replicate (3 - (lg_sl ([.ref h, .int x1, .int x2])).length) Slot.unset).toArray = ls at hl ⊢
  have hl : lv_has ls 3 [(0, .ref h), (1, .int x1), (2, .int x2)] := hl
  refine lv_aload_n hx hb dX0_flip_0 rfl (lv_at hl 0 rfl) ?_
  refine lv_iload_n hx hb dX0_flip_1 rfl (lv_at hl 1 rfl) ?_
  refine vp_callSi (W.runV (As := [.int x1]) (rest := []) ⟨hx, hb, hml, hown, hts⟩ (cX_isHeap l dC dI h ad ca tc cl tr g x1 _ hw) (cwV 1 hts gX0_flip_X0_isHeap rfl rfl rfl (by decide +kernel) ⟨Nat.le_of_ble_eq_true rfl, Nat.le_of_ble_eq_true rfl⟩) ⟨fun a U g mk q => by obtain ⟨q0, qP, qK⟩ := q; exact ⟨q0, qP, va_K.moved (u := U) (U := U.calling g mk a) (Vm.Alike.refl U.vm) qK⟩, va_recv hK hP (ci := 0) (q0 := 0) rfl rfl, fun U hU hW => ⟨rfl, by rw [hU]; exact hP, va_K.moved hW.alike hK⟩⟩ rfl rfl hl.1 rfl (lv_room (Nat.le_of_ble_eq_true rfl)) dX0_flip_2 ⟨Nat.zero_le _, Nat.zero_le _⟩) (fun r_1 hw => ?_)
  try dsimp only at hw
  refine lv_if_eq (tgt := 16) hx hb dX0_flip_5 (by decide) (fun hc => ?_) (fun hc => ?_)
  · replace hw := hw.1 hc
    clear hc
    refine lv_iconst (v := (-1 : Int32)) hx hb dX0_flip_16 (by decide) ?_
    exact W.iret (v := (-1 : Int32)) hx hb hr (fun t ht hW => ⟨_, rfl, hw, ht⟩) (fun q h => absurd h List.not_mem_nil) dX0_flip_17
  · replace hw := hw.2 hc
    clear hc
    refine lv_aload_n hx hb dX0_flip_8 rfl (lv_at hl 0 rfl) ?_
    refine lv_iload_n hx hb dX0_flip_9 rfl (lv_at hl 2 rfl) ?_
    refine vp_callSi (W.runV (As := [.int x2]) (rest := []) ⟨hx, hb, hml, hown, hts⟩ (cX_isThing l dC dI h ad ca tc cl tr g x2 _ hw) (cwV 1 hts gX0_flip_X0_isThing rfl rfl rfl (by decide +kernel) ⟨Nat.le_of_ble_eq_true rfl, Nat.le_of_ble_eq_true rfl⟩) ⟨fun a U g mk q => by obtain ⟨q0, qP, qK⟩ := q; exact ⟨q0, qP, va_K.moved (u := U) (U := U.calling g mk a) (Vm.Alike.refl U.vm) qK⟩, va_recv hK hP (ci := 0) (q0 := 0) rfl rfl, fun U hU hW => ⟨rfl, by rw [hU]; exact hP, va_K.moved hW.alike hK⟩⟩ rfl rfl hl.1 rfl (lv_room (Nat.le_of_ble_eq_true rfl)) dX0_flip_10 ⟨Nat.zero_le _, Nat.zero_le _⟩) (fun r_2 hw => ?_)
    try dsimp only at hw
    refine lv_if_ne (tgt := 18) hx hb dX0_flip_13 (by decide) (fun hc => ?_) (fun hc => ?_)
    · replace hw := hw.1 hc
      clear hc
      refine lv_aload_n hx hb dX0_flip_18 rfl (lv_at hl 0 rfl) ?_
      refine lv_iload_n hx hb dX0_flip_19 rfl (lv_at hl 1 rfl) ?_
      refine lv_iload_n hx hb dX0_flip_20 rfl (lv_at hl 2 rfl) ?_
      refine vp_callSi (W.runV (As := [.int x1, .int x2]) (rest := []) ⟨hx, hb, hml, hown, hts⟩ (cX_flipped l dC dI h ad ca tc cl tr g x1 x2 _ hw) (cwV 2 hts gX0_flip_X0_flipped rfl rfl rfl (by decide +kernel) ⟨Nat.le_of_ble_eq_true rfl, Nat.le_of_ble_eq_true rfl⟩) ⟨fun a U g mk q => by obtain ⟨q0, qP, qK⟩ := q; exact ⟨q0, qP, va_K.moved (u := U) (U := U.calling g mk a) (Vm.Alike.refl U.vm) qK⟩, va_recv hK hP (ci := 0) (q0 := 0) rfl rfl, fun U hU hW => ⟨rfl, by rw [hU]; exact hP, va_K.moved hW.alike hK⟩⟩ rfl rfl hl.1 rfl (lv_room (Nat.le_of_ble_eq_true rfl)) dX0_flip_21 ⟨Nat.zero_le _, Nat.zero_le _⟩) (fun r_3 hw => ?_)
      try dsimp only at hw
      exact W.iret (v := r_3) hx hb hr (fun t ht hW => ⟨_, rfl, hw, ht⟩) (fun q h => absurd h List.not_mem_nil) dX0_flip_24
    · replace hw := hw.2 hc
      clear hc
      refine lv_iconst (v := (-1 : Int32)) hx hb dX0_flip_16 (by decide) ?_
      exact W.iret (v := (-1 : Int32)) hx hb hr (fun t ht hW => ⟨_, rfl, hw, ht⟩) (fun q h => absurd h List.not_mem_nil) dX0_flip_17
-- X0_isTurnKind
set_option maxHeartbeats 4000000 in
set_option maxRecDepth 100000 in
theorem cX_isTurnKind (l : Launch) (x0 : Int32) (P : Int32 → Prop) (hw : wX_isTurnKind P x0) : Met l yX0_isTurnKind wsX0_isTurnKind ({ frames := 0, cells := 0, slots := 0, locals := 0 }) (va_Pc [.int x0] (fun _ => True)) (vp_Si P) 0 0 (fun _ => False) := by
  refine Met.ofW (cc := cX0_isTurnKind) (maxL := 1) (ret := (some .boolean)) (by decide) rfl ?_
  intro p e s m args below meth c s₁ B0 hml hv
  obtain ⟨hargs, -⟩ := hv
  have hx := B0.exec
  have hb := B0.bytes
  have hr := B0.returns
  have hts := atoms_spec (ws := wsX0_isTurnKind) B0.pre
  have hown : s.vm.findClass RX0 = some m.cls := findClass_of_methodNamed B0.named
  have hlocks := B0.notSynchronized
  have jn_9 : ∀ (ls : Array Slot), wX_isTurnKind_j9 P → lv_has ls 1 [] → W p l e (headSpec wsX0_isTurnKind ({ frames := 0, cells := 0, slots := 0, locals := 0 })).room s m args below meth c s.heap [] 0 0 (MQ below (vp_Si P) args s 0 0 (fun _ => False)) (F0 m 9 ls []) := by
    intro ls hw hl
    unfold wX_isTurnKind_j9 at hw
    refine lv_iconst (v := (1 : Int32)) hx hb dX0_isTurnKind_9 (by decide) ?_
    refine lv_goto (tgt := 14) hx hb dX0_isTurnKind_10 (by decide) ?_
    exact W.zret (v := (1 : Int32)) hx hb hr rfl (fun t ht hW => ⟨_, rfl, hw, ht⟩) (fun q h => absurd h List.not_mem_nil) dX0_isTurnKind_14
  subst hargs
  unfold wX_isTurnKind at hw
  have hl := lv_entry ([.int x0]) (n := 1) (Nat.le_of_ble_eq_true rfl)
  rw [lg_entry_eq]
  generalize (lg_sl ([.int x0]) ++ List.replicate (1 - (lg_sl ([.int x0])).length) Slot.unset).toArray = ls at hl ⊢
  have hl : lv_has ls 1 [(0, .int x0)] := hl
  refine lv_iload_n hx hb dX0_isTurnKind_0 rfl (lv_at hl 0 rfl) ?_
  refine lv_if_eq (tgt := 9) hx hb dX0_isTurnKind_1 (by decide) (fun hc => ?_) (fun hc => ?_)
  · replace hw := hw.1 hc
    clear hc
    exact jn_9 ls hw (lv_sub hl [] rfl)
  · replace hw := hw.2 hc
    clear hc
    refine lv_iload_n hx hb dX0_isTurnKind_4 rfl (lv_at hl 0 rfl) ?_
    refine lv_iconst (v := (1 : Int32)) hx hb dX0_isTurnKind_5 (by decide) ?_
    refine lv_icmp_ne (tgt := 13) hx hb dX0_isTurnKind_6 (by decide) (fun hc => ?_) (fun hc => ?_)
    · replace hw := hw.1 hc
      clear hc
      refine lv_iconst (v := (0 : Int32)) hx hb dX0_isTurnKind_13 (by decide) ?_
      exact W.zret (v := (0 : Int32)) hx hb hr rfl (fun t ht hW => ⟨_, rfl, hw, ht⟩) (fun q h => absurd h List.not_mem_nil) dX0_isTurnKind_14
    · replace hw := hw.2 hc
      clear hc
      exact jn_9 ls hw (lv_sub hl [] rfl)
-- X0_isTurnNumber
set_option maxHeartbeats 4000000 in
set_option maxRecDepth 100000 in
theorem cX_isTurnNumber (l : Launch) (x0 : Int32) (P : Int32 → Prop) (hw : wX_isTurnNumber P x0) : Met l yX0_isTurnNumber wsX0_isTurnNumber ({ frames := 0, cells := 0, slots := 0, locals := 0 }) (va_Pc [.int x0] (fun _ => True)) (vp_Si P) 0 0 (fun _ => False) := by
  refine Met.ofW (cc := cX0_isTurnNumber) (maxL := 1) (ret := (some .boolean)) (by decide) rfl ?_
  intro p e s m args below meth c s₁ B0 hml hv
  obtain ⟨hargs, -⟩ := hv
  have hx := B0.exec
  have hb := B0.bytes
  have hr := B0.returns
  have hts := atoms_spec (ws := wsX0_isTurnNumber) B0.pre
  have hown : s.vm.findClass RX0 = some m.cls := findClass_of_methodNamed B0.named
  have hlocks := B0.notSynchronized
  subst hargs
  unfold wX_isTurnNumber at hw
  have hl := lv_entry ([.int x0]) (n := 1) (Nat.le_of_ble_eq_true rfl)
  rw [lg_entry_eq]
  generalize (lg_sl ([.int x0]) ++ List.replicate (1 - (lg_sl ([.int x0])).length) Slot.unset).toArray = ls at hl ⊢
  have hl : lv_has ls 1 [(0, .int x0)] := hl
  refine lv_iload_n hx hb dX0_isTurnNumber_0 rfl (lv_at hl 0 rfl) ?_
  refine lv_if_lt (tgt := 15) hx hb dX0_isTurnNumber_1 (by decide) (fun hc => ?_) (fun hc => ?_)
  · replace hw := hw.1 hc
    clear hc
    refine lv_iconst (v := (0 : Int32)) hx hb dX0_isTurnNumber_15 (by decide) ?_
    exact W.zret (v := (0 : Int32)) hx hb hr rfl (fun t ht hW => ⟨_, rfl, hw, ht⟩) (fun q h => absurd h List.not_mem_nil) dX0_isTurnNumber_16
  · replace hw := hw.2 hc
    clear hc
    refine lv_iload_n hx hb dX0_isTurnNumber_4 rfl (lv_at hl 0 rfl) ?_
    refine lv_sipush (v := (1000 : Int32)) hx hb dX0_isTurnNumber_5 (by decide) ?_
    refine lv_icmp_gt (tgt := 15) hx hb dX0_isTurnNumber_8 (by decide) (fun hc => ?_) (fun hc => ?_)
    · replace hw := hw.1 hc
      clear hc
      refine lv_iconst (v := (0 : Int32)) hx hb dX0_isTurnNumber_15 (by decide) ?_
      exact W.zret (v := (0 : Int32)) hx hb hr rfl (fun t ht hW => ⟨_, rfl, hw, ht⟩) (fun q h => absurd h List.not_mem_nil) dX0_isTurnNumber_16
    · replace hw := hw.2 hc
      clear hc
      refine lv_iconst (v := (1 : Int32)) hx hb dX0_isTurnNumber_11 (by decide) ?_
      refine lv_goto (tgt := 16) hx hb dX0_isTurnNumber_12 (by decide) ?_
      exact W.zret (v := (1 : Int32)) hx hb hr rfl (fun t ht hW => ⟨_, rfl, hw, ht⟩) (fun q h => absurd h List.not_mem_nil) dX0_isTurnNumber_16
-- X0_turnedRound
set_option maxHeartbeats 4000000 in
set_option maxRecDepth 100000 in
theorem cX_turnedRound (l : Launch) (dC : Nat → ClassId) (dI : Nat → Nat → Nat) (h : Nat) (ad : Nat → Nat) (ca : Nat → ClassId) (tc cl : Int32) (tr : Int64) (g : Sg) (x1 : Int32) (P : Int32 → Prop) (hw : wX_turnedRound P tc cl tr g x1) : Met l yX0_turnedRound wsX0_turnedRound ({ frames := 1, cells := 0, slots := 0, locals := 21 }) (va_Pc [.ref h, .int x1] (fun U => va_P (dC, dI) vwCl (XL h ad ca tc cl tr g) U.heap ∧ va_K (dC, dI) vwCl (XT ca) U)) (vp_Si P) 0 0 (fun _ => False) := by
  refine Met.ofW (cc := cX0_turnedRound) (maxL := 4) (ret := (some .int)) (by decide) rfl ?_
  intro p e s m args below meth c s₁ B0 hml hv
  obtain ⟨hargs, hP, hK⟩ := hv
  have hx := B0.exec
  have hb := B0.bytes
  have hr := B0.returns
  have hts := atoms_spec (ws := wsX0_turnedRound) B0.pre
  have hown : s.vm.findClass RX0 = some m.cls := findClass_of_methodNamed B0.named
  have hlocks := B0.notSynchronized
  have inw : ∀ w ∈ wsX00, w ∈ wsX0_turnedRound := fun w h => List.mem_cons_of_mem _ (List.mem_append_right _ h)
  have f9 : (Cond.fieldLink RX0 9 "FlipHeaps" "thingCount" "I").before args s = true := hts _ (by decide +kernel)
  have f13 : (Cond.fieldLink RX0 13 "FlipHeaps" "under" "[I").before args s = true := hts _ (by decide +kernel)
  have lp_4 : ∀ (x1 : Int32), ∀ (n : Nat) (x2 : Int32) (x3 : Int32) (ls : Array Slot), Lp2 (wX_turnedRound_b4 P tc cl tr g x1) n x2 x3 → lv_has ls 4 [(0, .ref h), (1, .int x1), (2, .int x2), (3, .int x3)] → W p l e (headSpec wsX0_turnedRound ({ frames := 1, cells := 0, slots := 0, locals := 21 })).room s m args below meth c s.heap [] 0 0 (MQ below (vp_Si P) args s 0 0 (fun _ => False)) (F0 m 4 ls []) := by
    intro x1
    intro n
    induction n with
    | zero => intro x2 x3 ls hw; exact False.elim hw
    | succ n hB =>
      intro x2 x3 ls hw hl
      replace hw : wX_turnedRound_b4 P tc cl tr g x1 (Lp2 (wX_turnedRound_b4 P tc cl tr g x1) n) x2 x3 := hw
      unfold wX_turnedRound_b4 at hw
      refine lv_iload_n hx hb dX0_turnedRound_4 rfl (lv_at hl 3 rfl) ?_
      refine lv_aload_n hx hb dX0_turnedRound_5 rfl (lv_at hl 0 rfl) ?_
      refine va_get (D := (dC, dI)) (ci := 0) (C := RX0) (T := TX0) (N := 13) hx hb hts inw hown hK hP 0 rfl rfl 0 (by decide) f9 (fun _ h9 => h9) rfl dX0_turnedRound_6 ?_
      refine lv_icmp_ge (tgt := 52) hx hb dX0_turnedRound_9 (by decide) (fun hc => ?_) (fun hc => ?_)
      · replace hw := hw.1 hc
        clear hc
        refine lv_iload_n hx hb dX0_turnedRound_52 rfl (lv_at hl 2 rfl) ?_
        exact W.iret (v := x2) hx hb hr (fun t ht hW => ⟨_, rfl, hw, ht⟩) (fun q h => absurd h List.not_mem_nil) dX0_turnedRound_53
      · replace hw := hw.2 hc
        clear hc
        refine lv_iload_n hx hb dX0_turnedRound_12 rfl (lv_at hl 1 rfl) ?_
        refine lv_iload_n hx hb dX0_turnedRound_13 rfl (lv_at hl 3 rfl) ?_
        refine vp_callSi (W.runS (As := [.int x1, .int x3]) (rest := []) ⟨hx, hb, hml, hown, hts⟩ (cX_has l x1 x3 _ hw) (va_cwS 2 hts gX0_turnedRound_X0_has rfl rfl rfl (by decide +kernel) ⟨Nat.le_of_ble_eq_true rfl, Nat.le_of_ble_eq_true rfl⟩) ⟨fun a U g mk q => q, fun U hU hW => ⟨rfl, trivial⟩⟩ rfl rfl hl.1 rfl (lv_room (Nat.le_of_ble_eq_true rfl)) dX0_turnedRound_14 ⟨Nat.zero_le _, Nat.zero_le _⟩) (fun r_1 hw => ?_)
        try dsimp only at hw
        refine lv_if_ne (tgt := 46) hx hb dX0_turnedRound_17 (by decide) (fun hc => ?_) (fun hc => ?_)
        · replace hw := hw.1 hc
          clear hc
          refine lv_iinc (v := (x3 + 1)) (lv' := [(3, .int ((x3 + 1))), (0, .ref h), (1, .int x1), (2, .int x2)]) hx hb dX0_turnedRound_46 hl (k := 3) rfl rfl (by decide) rfl (fun ls hl => ?_)
          refine lv_goto (tgt := 4) hx hb dX0_turnedRound_49 (by decide) ?_
          exact hB x2 (x3 + 1) ls hw (lv_sub hl [1, 2, 3, 0] rfl)
        · replace hw := hw.2 hc
          clear hc
          refine lv_aload_n hx hb dX0_turnedRound_20 rfl (lv_at hl 0 rfl) ?_
          refine va_get (D := (dC, dI)) (ci := 0) (C := RX0) (T := TX0) (N := 13) hx hb hts inw hown hK hP 0 rfl rfl 3 (by decide) f13 (fun _ h9 => h9) rfl dX0_turnedRound_21 ?_
          refine lv_iload_n hx hb dX0_turnedRound_24 rfl (lv_at hl 3 rfl) ?_
          obtain ⟨hin, hw⟩ := hw
          refine va_iald hx hb hK hP 1 0 rfl rfl hin dX0_turnedRound_25 ?_
          refine lv_iload_n hx hb dX0_turnedRound_26 rfl (lv_at hl 1 rfl) ?_
          refine lv_iconst (v := (-1 : Int32)) hx hb dX0_turnedRound_27 (by decide) ?_
          refine lv_ixor hx hb dX0_turnedRound_28 ?_
          refine lv_iand hx hb dX0_turnedRound_29 ?_
          refine lv_if_ne (tgt := 46) hx hb dX0_turnedRound_30 (by decide) (fun hc => ?_) (fun hc => ?_)
          · replace hw := hw.1 hc
            clear hc
            refine lv_iinc (v := (x3 + 1)) (lv' := [(3, .int ((x3 + 1))), (0, .ref h), (1, .int x1), (2, .int x2)]) hx hb dX0_turnedRound_46 hl (k := 3) rfl rfl (by decide) rfl (fun ls hl => ?_)
            refine lv_goto (tgt := 4) hx hb dX0_turnedRound_49 (by decide) ?_
            exact hB x2 (x3 + 1) ls hw (lv_sub hl [1, 2, 3, 0] rfl)
          · replace hw := hw.2 hc
            clear hc
            refine lv_iload_n hx hb dX0_turnedRound_33 rfl (lv_at hl 2 rfl) ?_
            refine lv_aload_n hx hb dX0_turnedRound_34 rfl (lv_at hl 0 rfl) ?_
            refine va_get (D := (dC, dI)) (ci := 0) (C := RX0) (T := TX0) (N := 13) hx hb hts inw hown hK hP 0 rfl rfl 3 (by decide) f13 (fun _ h9 => h9) rfl dX0_turnedRound_35 ?_
            refine lv_iload_n hx hb dX0_turnedRound_38 rfl (lv_at hl 3 rfl) ?_
            obtain ⟨hin, hw⟩ := hw
            refine va_iald hx hb hK hP 1 0 rfl rfl hin dX0_turnedRound_39 ?_
            refine lv_iconst (v := (1 : Int32)) hx hb dX0_turnedRound_40 (by decide) ?_
            refine lv_iload_n hx hb dX0_turnedRound_41 rfl (lv_at hl 3 rfl) ?_
            refine lv_ishl hx hb dX0_turnedRound_42 ?_
            refine lv_ior hx hb dX0_turnedRound_43 ?_
            refine lv_ior hx hb dX0_turnedRound_44 ?_
            refine lv_topi (fun x2_2 hv => ?_)
            replace hw := hw x2_2 hv
            clear hv
            refine lv_istore_n (lv' := [(2, .int x2_2), (0, .ref h), (1, .int x1), (3, .int x3)]) hx hb dX0_turnedRound_45 rfl hl (by decide) rfl (fun ls hl => ?_)
            refine lv_iinc (v := (x3 + 1)) (lv' := [(3, .int ((x3 + 1))), (2, .int x2_2), (0, .ref h), (1, .int x1)]) hx hb dX0_turnedRound_46 hl (k := 3) rfl rfl (by decide) rfl (fun ls hl => ?_)
            refine lv_goto (tgt := 4) hx hb dX0_turnedRound_49 (by decide) ?_
            exact hB x2_2 (x3 + 1) ls hw (lv_sub hl [2, 3, 1, 0] rfl)
  subst hargs
  unfold wX_turnedRound at hw
  have hl := lv_entry ([.ref h, .int x1]) (n := 4) (Nat.le_of_ble_eq_true rfl)
  rw [lg_entry_eq]
  generalize (lg_sl ([.ref h, .int x1]) ++ List.replicate (4 - (lg_sl ([.ref h, .int x1])).length) Slot.unset).toArray = ls at hl ⊢
  have hl : lv_has ls 4 [(0, .ref h), (1, .int x1)] := hl
  refine lv_iconst (v := (0 : Int32)) hx hb dX0_turnedRound_0 (by decide) ?_
  refine lv_istore_n (lv' := [(2, .int (0 : Int32)), (0, .ref h), (1, .int x1)]) hx hb dX0_turnedRound_1 rfl hl (by decide) rfl (fun ls hl => ?_)
  refine lv_iconst (v := (0 : Int32)) hx hb dX0_turnedRound_2 (by decide) ?_
  refine lv_istore_n (lv' := [(3, .int (0 : Int32)), (2, .int (0 : Int32)), (0, .ref h), (1, .int x1)]) hx hb dX0_turnedRound_3 rfl hl (by decide) rfl (fun ls hl => ?_)
  obtain ⟨n_3, hw⟩ := hw
  exact lp_4 x1 n_3 (0 : Int32) (0 : Int32) ls hw (lv_sub hl [2, 3, 1, 0] rfl)
-- X0_turnedByChain
set_option maxHeartbeats 4000000 in
set_option maxRecDepth 100000 in
theorem cX_turnedByChain (l : Launch) (dC : Nat → ClassId) (dI : Nat → Nat → Nat) (h : Nat) (ad : Nat → Nat) (ca : Nat → ClassId) (tc cl : Int32) (tr : Int64) (g : Sg) (x1 : Int32) (P : Int32 → Prop) (hw : wX_turnedByChain P tc cl tr g x1) : Met l yX0_turnedByChain wsX0_turnedByChain ({ frames := 2, cells := 0, slots := 0, locals := 44 }) (va_Pc [.ref h, .int x1] (fun U => va_P (dC, dI) vwCl (XL h ad ca tc cl tr g) U.heap ∧ va_K (dC, dI) vwCl (XT ca) U)) (vp_Si P) 0 0 (fun _ => False) := by
  refine Met.ofW (cc := cX0_turnedByChain) (maxL := 4) (ret := (some .int)) (by decide) rfl ?_
  intro p e s m args below meth c s₁ B0 hml hv
  obtain ⟨hargs, hP, hK⟩ := hv
  have hx := B0.exec
  have hb := B0.bytes
  have hr := B0.returns
  have hts := atoms_spec (ws := wsX0_turnedByChain) B0.pre
  have hown : s.vm.findClass RX0 = some m.cls := findClass_of_methodNamed B0.named
  have hlocks := B0.notSynchronized
  have inw : ∀ w ∈ wsX00, w ∈ wsX0_turnedByChain := fun w h => List.mem_cons_of_mem _ (List.mem_append_right _ h)
  have f23 : (Cond.fieldLink RX0 23 "FlipHeaps" "chain" "[I").before args s = true := hts _ (by decide +kernel)
  have f45 : (Cond.fieldLink RX0 45 "FlipHeaps" "chainLength" "I").before args s = true := hts _ (by decide +kernel)
  have lp_4 : ∀ (n : Nat) (x2 : Int32) (x3 : Int32) (ls : Array Slot), Lp2 (wX_turnedByChain_b4 P tc cl tr g) n x2 x3 → lv_has ls 4 [(0, .ref h), (2, .int x2), (3, .int x3)] → W p l e (headSpec wsX0_turnedByChain ({ frames := 2, cells := 0, slots := 0, locals := 44 })).room s m args below meth c s.heap [] 0 0 (MQ below (vp_Si P) args s 0 0 (fun _ => False)) (F0 m 4 ls []) := by
    intro n
    induction n with
    | zero => intro x2 x3 ls hw; exact False.elim hw
    | succ n hB =>
      intro x2 x3 ls hw hl
      replace hw : wX_turnedByChain_b4 P tc cl tr g (Lp2 (wX_turnedByChain_b4 P tc cl tr g) n) x2 x3 := hw
      unfold wX_turnedByChain_b4 at hw
      refine lv_iload_n hx hb dX0_turnedByChain_4 rfl (lv_at hl 2 rfl) ?_
      refine lv_aload_n hx hb dX0_turnedByChain_5 rfl (lv_at hl 0 rfl) ?_
      refine va_get (D := (dC, dI)) (ci := 0) (C := RX0) (T := TX0) (N := 13) hx hb hts inw hown hK hP 0 rfl rfl 1 (by decide) f45 (fun _ h9 => h9) rfl dX0_turnedByChain_6 ?_
      refine lv_icmp_ge (tgt := 30) hx hb dX0_turnedByChain_9 (by decide) (fun hc => ?_) (fun hc => ?_)
      · replace hw := hw.1 hc
        clear hc
        refine lv_iload_n hx hb dX0_turnedByChain_30 rfl (lv_at hl 1 rfl) ?_
        exact W.iret (v := x2) hx hb hr (fun t ht hW => ⟨_, rfl, hw, ht⟩) (fun q h => absurd h List.not_mem_nil) dX0_turnedByChain_31
      · replace hw := hw.2 hc
        clear hc
        refine lv_aload_n hx hb dX0_turnedByChain_12 rfl (lv_at hl 0 rfl) ?_
        refine lv_iload_n hx hb dX0_turnedByChain_13 rfl (lv_at hl 1 rfl) ?_
        refine lv_aload_n hx hb dX0_turnedByChain_14 rfl (lv_at hl 0 rfl) ?_
        refine va_get (D := (dC, dI)) (ci := 0) (C := RX0) (T := TX0) (N := 13) hx hb hts inw hown hK hP 0 rfl rfl 6 (by decide) f23 (fun _ h9 => h9) rfl dX0_turnedByChain_15 ?_
        refine lv_iload_n hx hb dX0_turnedByChain_18 rfl (lv_at hl 2 rfl) ?_
        obtain ⟨hin, hw⟩ := hw
        refine va_iald hx hb hK hP 4 3 rfl rfl hin dX0_turnedByChain_19 ?_
        refine vp_callSi (W.runV (As := [.int x2, .int ((g 6 (x3).toNatClampNeg))]) (rest := []) ⟨hx, hb, hml, hown, hts⟩ (cX_flipped l dC dI h ad ca tc cl tr g x2 (g 6 (x3).toNatClampNeg) _ hw) (cwV 2 hts gX0_turnedByChain_X0_flipped rfl rfl rfl (by decide +kernel) ⟨Nat.le_of_ble_eq_true rfl, Nat.le_of_ble_eq_true rfl⟩) ⟨fun a U g mk q => by obtain ⟨q0, qP, qK⟩ := q; exact ⟨q0, qP, va_K.moved (u := U) (U := U.calling g mk a) (Vm.Alike.refl U.vm) qK⟩, va_recv hK hP (ci := 0) (q0 := 0) rfl rfl, fun U hU hW => ⟨rfl, by rw [hU]; exact hP, va_K.moved hW.alike hK⟩⟩ rfl rfl hl.1 rfl (lv_room (Nat.le_of_ble_eq_true rfl)) dX0_turnedByChain_20 ⟨Nat.zero_le _, Nat.zero_le _⟩) (fun r_1 hw => ?_)
        try dsimp only at hw
        refine lv_istore_n (lv' := [(2, .int r_1), (0, .ref h), (3, .int x3)]) hx hb dX0_turnedByChain_23 rfl hl (by decide) rfl (fun ls hl => ?_)
        refine lv_iinc (v := (x3 + 1)) (lv' := [(3, .int ((x3 + 1))), (2, .int r_1), (0, .ref h)]) hx hb dX0_turnedByChain_24 hl (k := 2) rfl rfl (by decide) rfl (fun ls hl => ?_)
        refine lv_goto (tgt := 4) hx hb dX0_turnedByChain_27 (by decide) ?_
        exact hB r_1 (x3 + 1) ls hw (lv_sub hl [2, 1, 0] rfl)
  subst hargs
  unfold wX_turnedByChain at hw
  have hl := lv_entry ([.ref h, .int x1]) (n := 4) (Nat.le_of_ble_eq_true rfl)
  rw [lg_entry_eq]
  generalize (lg_sl ([.ref h, .int x1]) ++ List.replicate (4 - (lg_sl ([.ref h, .int x1])).length) Slot.unset).toArray = ls at hl ⊢
  have hl : lv_has ls 4 [(0, .ref h), (1, .int x1)] := hl
  refine lv_iload_n hx hb dX0_turnedByChain_0 rfl (lv_at hl 1 rfl) ?_
  refine lv_istore_n (lv' := [(2, .int x1), (0, .ref h), (1, .int x1)]) hx hb dX0_turnedByChain_1 rfl hl (by decide) rfl (fun ls hl => ?_)
  refine lv_iconst (v := (0 : Int32)) hx hb dX0_turnedByChain_2 (by decide) ?_
  refine lv_istore_n (lv' := [(3, .int (0 : Int32)), (2, .int x1), (0, .ref h), (1, .int x1)]) hx hb dX0_turnedByChain_3 rfl hl (by decide) rfl (fun ls hl => ?_)
  obtain ⟨n_2, hw⟩ := hw
  exact lp_4 n_2 x1 (0 : Int32) ls hw (lv_sub hl [2, 1, 0] rfl)
-- X0_turned
set_option maxHeartbeats 4000000 in
set_option maxRecDepth 100000 in
theorem cX_turned (l : Launch) (dC : Nat → ClassId) (dI : Nat → Nat → Nat) (h : Nat) (ad : Nat → Nat) (ca : Nat → ClassId) (tc cl : Int32) (tr : Int64) (g : Sg) (x1 : Int32) (x2 : Int32) (P : Int32 → Prop) (hw : wX_turned P tc cl tr g x1 x2) : Met l yX0_turned wsX0_turned ({ frames := 3, cells := 0, slots := 0, locals := 67 }) (va_Pc [.ref h, .int x1, .int x2] (fun U => va_P (dC, dI) vwCl (XL h ad ca tc cl tr g) U.heap ∧ va_K (dC, dI) vwCl (XT ca) U)) (vp_Si P) 0 0 (fun _ => False) := by
  refine Met.ofW (cc := cX0_turned) (maxL := 3) (ret := (some .int)) (by decide) rfl ?_
  intro p e s m args below meth c s₁ B0 hml hv
  obtain ⟨hargs, hP, hK⟩ := hv
  have hx := B0.exec
  have hb := B0.bytes
  have hr := B0.returns
  have hts := atoms_spec (ws := wsX0_turned) B0.pre
  have hown : s.vm.findClass RX0 = some m.cls := findClass_of_methodNamed B0.named
  have hlocks := B0.notSynchronized
  have inw : ∀ w ∈ wsX00, w ∈ wsX0_turned := fun w h => List.mem_cons_of_mem _ (List.mem_append_right _ h)
  subst hargs
  unfold wX_turned at hw
  have hl := lv_entry ([.ref h, .int x1, .int x2]) (n := 3) (Nat.le_of_ble_eq_true rfl)
  rw [lg_entry_eq]
  generalize (lg_sl ([.ref h, .int x1, .int x2]) ++ List.replicate (3 - (lg_sl ([.ref h, .int x1, .int x2])).length) Slot.unset).toArray = ls at hl ⊢
  have hl : lv_has ls 3 [(0, .ref h), (1, .int x1), (2, .int x2)] := hl
  refine lv_iload_n hx hb dX0_turned_0 rfl (lv_at hl 2 rfl) ?_
  refine lv_if_ne (tgt := 12) hx hb dX0_turned_1 (by decide) (fun hc => ?_) (fun hc => ?_)
  · replace hw := hw.1 hc
    clear hc
    refine lv_aload_n hx hb dX0_turned_12 rfl (lv_at hl 0 rfl) ?_
    refine lv_iload_n hx hb dX0_turned_13 rfl (lv_at hl 1 rfl) ?_
    refine vp_callSi (W.runV (As := [.int x1]) (rest := []) ⟨hx, hb, hml, hown, hts⟩ (cX_turnedByChain l dC dI h ad ca tc cl tr g x1 _ hw) (cwV 1 hts gX0_turned_X0_turnedByChain rfl rfl rfl (by decide +kernel) ⟨Nat.le_of_ble_eq_true rfl, Nat.le_of_ble_eq_true rfl⟩) ⟨fun a U g mk q => by obtain ⟨q0, qP, qK⟩ := q; exact ⟨q0, qP, va_K.moved (u := U) (U := U.calling g mk a) (Vm.Alike.refl U.vm) qK⟩, va_recv hK hP (ci := 0) (q0 := 0) rfl rfl, fun U hU hW => ⟨rfl, by rw [hU]; exact hP, va_K.moved hW.alike hK⟩⟩ rfl rfl hl.1 rfl (lv_room (Nat.le_of_ble_eq_true rfl)) dX0_turned_14 ⟨Nat.zero_le _, Nat.zero_le _⟩) (fun r_1 hw => ?_)
    try dsimp only at hw
    exact W.iret (v := r_1) hx hb hr (fun t ht hW => ⟨_, rfl, hw, ht⟩) (fun q h => absurd h List.not_mem_nil) dX0_turned_17
  · replace hw := hw.2 hc
    clear hc
    refine lv_aload_n hx hb dX0_turned_4 rfl (lv_at hl 0 rfl) ?_
    refine lv_iload_n hx hb dX0_turned_5 rfl (lv_at hl 1 rfl) ?_
    refine vp_callSi (W.runV (As := [.int x1]) (rest := []) ⟨hx, hb, hml, hown, hts⟩ (cX_turnedRound l dC dI h ad ca tc cl tr g x1 _ hw) (cwV 1 hts gX0_turned_X0_turnedRound rfl rfl rfl (by decide +kernel) ⟨Nat.le_of_ble_eq_true rfl, Nat.le_of_ble_eq_true rfl⟩) ⟨fun a U g mk q => by obtain ⟨q0, qP, qK⟩ := q; exact ⟨q0, qP, va_K.moved (u := U) (U := U.calling g mk a) (Vm.Alike.refl U.vm) qK⟩, va_recv hK hP (ci := 0) (q0 := 0) rfl rfl, fun U hU hW => ⟨rfl, by rw [hU]; exact hP, va_K.moved hW.alike hK⟩⟩ rfl rfl hl.1 rfl (lv_room (Nat.le_of_ble_eq_true rfl)) dX0_turned_6 ⟨Nat.zero_le _, Nat.zero_le _⟩) (fun r_2 hw => ?_)
    try dsimp only at hw
    refine lv_goto (tgt := 17) hx hb dX0_turned_9 (by decide) ?_
    exact W.iret (v := r_2) hx hb hr (fun t ht hW => ⟨_, rfl, hw, ht⟩) (fun q h => absurd h List.not_mem_nil) dX0_turned_17
-- X0_turn
set_option maxHeartbeats 4000000 in
set_option maxRecDepth 100000 in
theorem cX_turn (l : Launch) (dC : Nat → ClassId) (dI : Nat → Nat → Nat) (h : Nat) (ad : Nat → Nat) (ca : Nat → ClassId) (tc cl : Int32) (tr : Int64) (g : Sg) (x1 : Int32) (x2 : Int32) (x3 : Int32) (P : Int32 → Prop) (hw : wX_turn P tc cl tr g x1 x2 x3) : Met l yX0_turn wsX0_turn ({ frames := 4, cells := 0, slots := 0, locals := 89 }) (va_Pc [.ref h, .int x1, .int x2, .int x3] (fun U => va_P (dC, dI) vwCl (XL h ad ca tc cl tr g) U.heap ∧ va_K (dC, dI) vwCl (XT ca) U)) (vp_Si P) 0 0 (fun _ => False) := by
  refine Met.ofW (cc := cX0_turn) (maxL := 6) (ret := (some .int)) (by decide) rfl ?_
  intro p e s m args below meth c s₁ B0 hml hv
  obtain ⟨hargs, hP, hK⟩ := hv
  have hx := B0.exec
  have hb := B0.bytes
  have hr := B0.returns
  have hts := atoms_spec (ws := wsX0_turn) B0.pre
  have hown : s.vm.findClass RX0 = some m.cls := findClass_of_methodNamed B0.named
  have hlocks := B0.notSynchronized
  have inw : ∀ w ∈ wsX00, w ∈ wsX0_turn := fun w h => List.mem_cons_of_mem _ (List.mem_append_right _ h)
  have lp_30 : ∀ (x2 : Int32) (x3 : Int32), ∀ (n : Nat) (x4 : Int32) (x5 : Int32) (ls : Array Slot), Lp2 (wX_turn_b30 P tc cl tr g x2 x3) n x4 x5 → lv_has ls 6 [(0, .ref h), (2, .int x2), (3, .int x3), (4, .int x4), (5, .int x5)] → W p l e (headSpec wsX0_turn ({ frames := 4, cells := 0, slots := 0, locals := 89 })).room s m args below meth c s.heap [] 0 0 (MQ below (vp_Si P) args s 0 0 (fun _ => False)) (F0 m 30 ls []) := by
    intro x2 x3
    intro n
    induction n with
    | zero => intro x4 x5 ls hw; exact False.elim hw
    | succ n hB =>
      intro x4 x5 ls hw hl
      replace hw : wX_turn_b30 P tc cl tr g x2 x3 (Lp2 (wX_turn_b30 P tc cl tr g x2 x3) n) x4 x5 := hw
      unfold wX_turn_b30 at hw
      refine lv_iload hx hb dX0_turn_30 (lv_at hl 4 rfl) ?_
      refine lv_iload_n hx hb dX0_turn_32 rfl (lv_at hl 2 rfl) ?_
      refine lv_icmp_ge (tgt := 51) hx hb dX0_turn_33 (by decide) (fun hc => ?_) (fun hc => ?_)
      · replace hw := hw.1 hc
        clear hc
        refine lv_iload hx hb dX0_turn_51 (lv_at hl 3 rfl) ?_
        exact W.iret (v := x4) hx hb hr (fun t ht hW => ⟨_, rfl, hw, ht⟩) (fun q h => absurd h List.not_mem_nil) dX0_turn_53
      · replace hw := hw.2 hc
        clear hc
        refine lv_aload_n hx hb dX0_turn_36 rfl (lv_at hl 0 rfl) ?_
        refine lv_iload hx hb dX0_turn_37 (lv_at hl 3 rfl) ?_
        refine lv_iload_n hx hb dX0_turn_39 rfl (lv_at hl 1 rfl) ?_
        refine vp_callSi (W.runV (As := [.int x4, .int x2]) (rest := []) ⟨hx, hb, hml, hown, hts⟩ (cX_turned l dC dI h ad ca tc cl tr g x4 x2 _ hw) (cwV 2 hts gX0_turn_X0_turned rfl rfl rfl (by decide +kernel) ⟨Nat.le_of_ble_eq_true rfl, Nat.le_of_ble_eq_true rfl⟩) ⟨fun a U g mk q => by obtain ⟨q0, qP, qK⟩ := q; exact ⟨q0, qP, va_K.moved (u := U) (U := U.calling g mk a) (Vm.Alike.refl U.vm) qK⟩, va_recv hK hP (ci := 0) (q0 := 0) rfl rfl, fun U hU hW => ⟨rfl, by rw [hU]; exact hP, va_K.moved hW.alike hK⟩⟩ rfl rfl hl.1 rfl (lv_room (Nat.le_of_ble_eq_true rfl)) dX0_turn_40 ⟨Nat.zero_le _, Nat.zero_le _⟩) (fun r_1 hw => ?_)
        try dsimp only at hw
        refine lv_istore (lv' := [(4, .int r_1), (0, .ref h), (2, .int x2), (3, .int x3), (5, .int x5)]) hx hb dX0_turn_43 hl (by decide) rfl (fun ls hl => ?_)
        refine lv_iinc (v := (x5 + 1)) (lv' := [(5, .int ((x5 + 1))), (4, .int r_1), (0, .ref h), (2, .int x2), (3, .int x3)]) hx hb dX0_turn_45 hl (k := 4) rfl rfl (by decide) rfl (fun ls hl => ?_)
        refine lv_goto (tgt := 30) hx hb dX0_turn_48 (by decide) ?_
        exact hB r_1 (x5 + 1) ls hw (lv_sub hl [2, 3, 4, 1, 0] rfl)
  subst hargs
  unfold wX_turn at hw
  have hl := lv_entry ([.ref h, .int x1, .int x2, .int x3]) (n := 6) (Nat.le_of_ble_eq_true rfl)
  rw [lg_entry_eq]
  generalize (lg_sl ([.ref h, .int x1, .int x2, .int x3]) ++ List.replicate (6 - (lg_sl ([.ref h, .int x1, .int x2, .int x3])).length) Slot.unset).toArray = ls at hl ⊢
  have hl : lv_has ls 6 [(0, .ref h), (1, .int x1), (2, .int x2), (3, .int x3)] := hl
  refine lv_aload_n hx hb dX0_turn_0 rfl (lv_at hl 0 rfl) ?_
  refine lv_iload_n hx hb dX0_turn_1 rfl (lv_at hl 1 rfl) ?_
  refine vp_callSi (W.runV (As := [.int x1]) (rest := []) ⟨hx, hb, hml, hown, hts⟩ (cX_isHeap l dC dI h ad ca tc cl tr g x1 _ hw) (cwV 1 hts gX0_turn_X0_isHeap rfl rfl rfl (by decide +kernel) ⟨Nat.le_of_ble_eq_true rfl, Nat.le_of_ble_eq_true rfl⟩) ⟨fun a U g mk q => by obtain ⟨q0, qP, qK⟩ := q; exact ⟨q0, qP, va_K.moved (u := U) (U := U.calling g mk a) (Vm.Alike.refl U.vm) qK⟩, va_recv hK hP (ci := 0) (q0 := 0) rfl rfl, fun U hU hW => ⟨rfl, by rw [hU]; exact hP, va_K.moved hW.alike hK⟩⟩ rfl rfl hl.1 rfl (lv_room (Nat.le_of_ble_eq_true rfl)) dX0_turn_2 ⟨Nat.zero_le _, Nat.zero_le _⟩) (fun r_2 hw => ?_)
  try dsimp only at hw
  refine lv_if_eq (tgt := 22) hx hb dX0_turn_5 (by decide) (fun hc => ?_) (fun hc => ?_)
  · replace hw := hw.1 hc
    clear hc
    refine lv_iconst (v := (-1 : Int32)) hx hb dX0_turn_22 (by decide) ?_
    exact W.iret (v := (-1 : Int32)) hx hb hr (fun t ht hW => ⟨_, rfl, hw, ht⟩) (fun q h => absurd h List.not_mem_nil) dX0_turn_23
  · replace hw := hw.2 hc
    clear hc
    refine lv_iload_n hx hb dX0_turn_8 rfl (lv_at hl 2 rfl) ?_
    refine vp_callSi (W.runS (As := [.int x2]) (rest := []) ⟨hx, hb, hml, hown, hts⟩ (cX_isTurnKind l x2 _ hw) (va_cwS 1 hts gX0_turn_X0_isTurnKind rfl rfl rfl (by decide +kernel) ⟨Nat.le_of_ble_eq_true rfl, Nat.le_of_ble_eq_true rfl⟩) ⟨fun a U g mk q => q, fun U hU hW => ⟨rfl, trivial⟩⟩ rfl rfl hl.1 rfl (lv_room (Nat.le_of_ble_eq_true rfl)) dX0_turn_9 ⟨Nat.zero_le _, Nat.zero_le _⟩) (fun r_3 hw => ?_)
    try dsimp only at hw
    refine lv_if_eq (tgt := 22) hx hb dX0_turn_12 (by decide) (fun hc => ?_) (fun hc => ?_)
    · replace hw := hw.1 hc
      clear hc
      refine lv_iconst (v := (-1 : Int32)) hx hb dX0_turn_22 (by decide) ?_
      exact W.iret (v := (-1 : Int32)) hx hb hr (fun t ht hW => ⟨_, rfl, hw, ht⟩) (fun q h => absurd h List.not_mem_nil) dX0_turn_23
    · replace hw := hw.2 hc
      clear hc
      refine lv_iload_n hx hb dX0_turn_15 rfl (lv_at hl 3 rfl) ?_
      refine vp_callSi (W.runS (As := [.int x3]) (rest := []) ⟨hx, hb, hml, hown, hts⟩ (cX_isTurnNumber l x3 _ hw) (va_cwS 1 hts gX0_turn_X0_isTurnNumber rfl rfl rfl (by decide +kernel) ⟨Nat.le_of_ble_eq_true rfl, Nat.le_of_ble_eq_true rfl⟩) ⟨fun a U g mk q => q, fun U hU hW => ⟨rfl, trivial⟩⟩ rfl rfl hl.1 rfl (lv_room (Nat.le_of_ble_eq_true rfl)) dX0_turn_16 ⟨Nat.zero_le _, Nat.zero_le _⟩) (fun r_4 hw => ?_)
      try dsimp only at hw
      refine lv_if_ne (tgt := 24) hx hb dX0_turn_19 (by decide) (fun hc => ?_) (fun hc => ?_)
      · replace hw := hw.1 hc
        clear hc
        refine lv_iload_n hx hb dX0_turn_24 rfl (lv_at hl 1 rfl) ?_
        refine lv_istore (lv' := [(4, .int x1), (0, .ref h), (1, .int x1), (2, .int x2), (3, .int x3)]) hx hb dX0_turn_25 hl (by decide) rfl (fun ls hl => ?_)
        refine lv_iconst (v := (0 : Int32)) hx hb dX0_turn_27 (by decide) ?_
        refine lv_istore (lv' := [(5, .int (0 : Int32)), (4, .int x1), (0, .ref h), (1, .int x1), (2, .int x2), (3, .int x3)]) hx hb dX0_turn_28 hl (by decide) rfl (fun ls hl => ?_)
        obtain ⟨n_5, hw⟩ := hw
        exact lp_30 x2 x3 n_5 x1 (0 : Int32) ls hw (lv_sub hl [2, 4, 5, 1, 0] rfl)
      · replace hw := hw.2 hc
        clear hc
        refine lv_iconst (v := (-1 : Int32)) hx hb dX0_turn_22 (by decide) ?_
        exact W.iret (v := (-1 : Int32)) hx hb hr (fun t ht hW => ⟨_, rfl, hw, ht⟩) (fun q h => absurd h List.not_mem_nil) dX0_turn_23
-- X0_walkOrbit
set_option maxHeartbeats 4000000 in
set_option maxRecDepth 100000 in
theorem cX_walkOrbit (l : Launch) (dC : Nat → ClassId) (dI : Nat → Nat → Nat) (h : Nat) (ad : Nat → Nat) (ca : Nat → ClassId) (sz : Nat) (tc cl : Int32) (tr : Int64) (g : Sg) (x1 : Int32) (x2 : Int32) (P : Int32 → Sg → Prop) (hw : wX_walkOrbit P tc cl tr g x1 x2) : Met l yX0_walkOrbit wsX0_walkOrbit ({ frames := 4, cells := 0, slots := 0, locals := 89 }) (va_Pc [.ref h, .int x1, .int x2] (fun U => U.heap.size = sz ∧ va_P (dC, dI) vwCl (XL h ad ca tc cl tr g) U.heap ∧ va_K (dC, dI) vwCl (XT ca) U ∧ va_D (fun _ => True) (XL h ad ca tc cl tr g))) (va_Qi (fun (r : Int32) (u : Sg) => P r u) (at_X1 dC dI (va_A (XL h ad ca tc cl tr g) sz) h ad ca tc cl tr) (va_A (XL h ad ca tc cl tr g) sz)) 0 0 (va_A (XL h ad ca tc cl tr g) sz) := by
  refine Met.ofW (cc := cX0_walkOrbit) (maxL := 5) (ret := (some .int)) (by decide) rfl ?_
  intro p e s m args below meth c s₁ B0 hml hv
  obtain ⟨hargs, hsz, hP, hK, hD0⟩ := hv
  have hx := B0.exec
  have hb := B0.bytes
  have hr := B0.returns
  have hts := atoms_spec (ws := wsX0_walkOrbit) B0.pre
  have hown : s.vm.findClass RX0 = some m.cls := findClass_of_methodNamed B0.named
  have hlocks := B0.notSynchronized
  have inw : ∀ w ∈ wsX00, w ∈ wsX0_walkOrbit := fun w h => List.mem_cons_of_mem _ (List.mem_append_right _ h)
  have f41 : (Cond.fieldLink RX0 41 "FlipHeaps" "seen" "[Z").before args s = true := hts _ (by decide +kernel)
  subst hsz
  have hD := hD0.self (sz := s.heap.size)
  generalize hAe : va_A (XL h ad ca tc cl tr g) s.heap.size = A at hD ⊢
  have hA : ∀ q : Nat, s.heap.size ≤ q → A q := fun q h => by rw [← hAe]; exact Or.inr h
  clear hAe hD0
  have hS : va_S A s.heap s.heap [] := va_S.rf
  have lp_5 : ∀ (x1 : Int32) (x2 : Int32), ∀ (n : Nat) (x3 : Int32) (x4 : Int32) (g : Sg) (H : Heap) (locs : List Loc) (ls : Array Slot), Lp3 (wX_walkOrbit_b5 P tc cl tr x1 x2) n x3 x4 g → va_P (dC, dI) vwCl (XL h ad ca tc cl tr g) H → va_D A (XL h ad ca tc cl tr g) → va_S A s.heap H locs → lv_has ls 5 [(0, .ref h), (1, .int x1), (2, .int x2), (3, .int x3), (4, .int x4)] → W p l e (headSpec wsX0_walkOrbit ({ frames := 4, cells := 0, slots := 0, locals := 89 })).room s m args below meth c H locs 0 0 (MQ below (va_Qi (fun (r : Int32) (u : Sg) => P r u) (at_X1 dC dI A h ad ca tc cl tr) A) args s 0 0 A) (F0 m 5 ls []) := by
    intro x1 x2
    intro n
    induction n with
    | zero => intro x3 x4 g H locs ls hw; exact False.elim hw
    | succ n hB =>
      intro x3 x4 g H locs ls hw hP hD hS hl
      replace hw : wX_walkOrbit_b5 P tc cl tr x1 x2 (Lp3 (wX_walkOrbit_b5 P tc cl tr x1 x2) n) x3 x4 g := hw
      unfold wX_walkOrbit_b5 at hw
      refine lv_aload_n hx hb dX0_walkOrbit_5 rfl (lv_at hl 0 rfl) ?_
      refine va_get (D := (dC, dI)) (ci := 0) (C := RX0) (T := TX0) (N := 13) hx hb hts inw hown hK hP 0 rfl rfl 12 (by decide) f41 (fun _ h9 => h9) rfl dX0_walkOrbit_6 ?_
      refine lv_iload_n hx hb dX0_walkOrbit_9 rfl (lv_at hl 3 rfl) ?_
      refine lv_iconst (v := (1 : Int32)) hx hb dX0_walkOrbit_10 (by decide) ?_
      obtain ⟨hin, hw⟩ := hw
      refine va_zast hx hb hK hP hD hS 10 9 rfl rfl hin dX0_walkOrbit_11 (fun H locs hP hD hS => ?_)
      obtain ⟨g_1, hg⟩ : ∃ z : Sg, z = up2 g 12 (x3).toNatClampNeg (vp_nar .boolean (1 : Int32)) := ⟨_, rfl⟩
      replace hw := hw g_1 hg
      have hP : va_P (dC, dI) vwCl (XL h ad ca tc cl tr g_1) H := by rw [hg]; exact hP
      have hD : va_D A (XL h ad ca tc cl tr g_1) := by rw [hg]; exact hD
      clear hg
      refine lv_aload_n hx hb dX0_walkOrbit_12 rfl (lv_at hl 0 rfl) ?_
      refine lv_iload_n hx hb dX0_walkOrbit_13 rfl (lv_at hl 3 rfl) ?_
      refine lv_iload_n hx hb dX0_walkOrbit_14 rfl (lv_at hl 2 rfl) ?_
      refine vp_callSi (W.runV (As := [.int x3, .int x2]) (rest := []) ⟨hx, hb, hml, hown, hts⟩ (cX_turned l dC dI h ad ca tc cl tr g_1 x3 x2 _ hw) (cwV 2 hts gX0_walkOrbit_X0_turned rfl rfl rfl (by decide +kernel) ⟨Nat.le_of_ble_eq_true rfl, Nat.le_of_ble_eq_true rfl⟩) ⟨fun a U g mk q => by obtain ⟨q0, qP, qK⟩ := q; exact ⟨q0, qP, va_K.moved (u := U) (U := U.calling g mk a) (Vm.Alike.refl U.vm) qK⟩, va_recv hK hP (ci := 0) (q0 := 0) rfl rfl, fun U hU hW => ⟨rfl, by rw [hU]; exact hP, va_K.moved hW.alike hK⟩⟩ rfl rfl hl.1 rfl (lv_room (Nat.le_of_ble_eq_true rfl)) dX0_walkOrbit_15 ⟨Nat.zero_le _, Nat.zero_le _⟩) (fun r_2 hw => ?_)
      try dsimp only at hw
      refine lv_istore_n (lv' := [(3, .int r_2), (0, .ref h), (1, .int x1), (2, .int x2), (4, .int x4)]) hx hb dX0_walkOrbit_18 rfl hl (by decide) rfl (fun ls hl => ?_)
      refine lv_iinc (v := (x4 + 1)) (lv' := [(4, .int ((x4 + 1))), (3, .int r_2), (0, .ref h), (1, .int x1), (2, .int x2)]) hx hb dX0_walkOrbit_19 hl (k := 4) rfl rfl (by decide) rfl (fun ls hl => ?_)
      refine lv_iload_n hx hb dX0_walkOrbit_22 rfl (lv_at hl 1 rfl) ?_
      refine lv_iload_n hx hb dX0_walkOrbit_23 rfl (lv_at hl 3 rfl) ?_
      refine lv_icmp_eq (tgt := 35) hx hb dX0_walkOrbit_24 (by decide) (fun hc => ?_) (fun hc => ?_)
      · replace hw := hw.1 hc
        clear hc
        refine lv_iload hx hb dX0_walkOrbit_35 (lv_at hl 0 rfl) ?_
        exact W.iret (v := (x4 + 1)) hx hb hr (fun t ht hW => ⟨⟨(x4 + 1), g_1, rfl, hw, by rw [ht]; exact hP, va_K.moved hW.alike hK, hD⟩, hS.F ht⟩) hS.2.2 dX0_walkOrbit_37
      · replace hw := hw.2 hc
        clear hc
        refine lv_iload hx hb dX0_walkOrbit_27 (lv_at hl 0 rfl) ?_
        refine lv_sipush (v := (256 : Int32)) hx hb dX0_walkOrbit_29 (by decide) ?_
        refine lv_icmp_lt (tgt := 5) hx hb dX0_walkOrbit_32 (by decide) (fun hc => ?_) (fun hc => ?_)
        · replace hw := hw.1 hc
          clear hc
          exact hB r_2 (x4 + 1) g_1 H locs ls hw hP hD hS (lv_sub hl [2, 3, 4, 1, 0] rfl)
        · replace hw := hw.2 hc
          clear hc
          refine lv_iload hx hb dX0_walkOrbit_35 (lv_at hl 0 rfl) ?_
          exact W.iret (v := (x4 + 1)) hx hb hr (fun t ht hW => ⟨⟨(x4 + 1), g_1, rfl, hw, by rw [ht]; exact hP, va_K.moved hW.alike hK, hD⟩, hS.F ht⟩) hS.2.2 dX0_walkOrbit_37
  subst hargs
  unfold wX_walkOrbit at hw
  have hl := lv_entry ([.ref h, .int x1, .int x2]) (n := 5) (Nat.le_of_ble_eq_true rfl)
  rw [lg_entry_eq]
  generalize (lg_sl ([.ref h, .int x1, .int x2]) ++ List.replicate (5 - (lg_sl ([.ref h, .int x1, .int x2])).length) Slot.unset).toArray = ls at hl ⊢
  have hl : lv_has ls 5 [(0, .ref h), (1, .int x1), (2, .int x2)] := hl
  obtain ⟨H, hHe⟩ : ∃ z : Heap, z = s.heap := ⟨_, rfl⟩
  obtain ⟨locs, hLe⟩ : ∃ z : List Loc, z = [] := ⟨_, rfl⟩
  have hS : va_S A s.heap H locs := by rw [hHe, hLe]; exact hS
  have hP : va_P (dC, dI) vwCl (XL h ad ca tc cl tr g) H := by rw [hHe]; exact hP
  have hgo : W p l e (headSpec wsX0_walkOrbit ({ frames := 4, cells := 0, slots := 0, locals := 89 })).room s m ([.ref h, .int x1, .int x2] : List Value).toArray below meth c H locs 0 0 (MQ below (va_Qi (fun (r : Int32) (u : Sg) => P r u) (at_X1 dC dI A h ad ca tc cl tr) A) ([.ref h, .int x1, .int x2] : List Value).toArray s 0 0 A) (F0 m 0 ls []) := by
    clear hHe hLe
    refine lv_iload_n hx hb dX0_walkOrbit_0 rfl (lv_at hl 1 rfl) ?_
    refine lv_istore_n (lv' := [(3, .int x1), (0, .ref h), (1, .int x1), (2, .int x2)]) hx hb dX0_walkOrbit_1 rfl hl (by decide) rfl (fun ls hl => ?_)
    refine lv_iconst (v := (0 : Int32)) hx hb dX0_walkOrbit_2 (by decide) ?_
    refine lv_istore (lv' := [(4, .int (0 : Int32)), (3, .int x1), (0, .ref h), (1, .int x1), (2, .int x2)]) hx hb dX0_walkOrbit_3 hl (by decide) rfl (fun ls hl => ?_)
    obtain ⟨n_3, hw⟩ := hw
    exact lp_5 x1 x2 n_3 x1 (0 : Int32) g H locs ls hw hP hD hS (lv_sub hl [2, 3, 4, 1, 0] rfl)
  rw [hHe, hLe] at hgo
  exact hgo
-- X0_orbit
set_option maxHeartbeats 4000000 in
set_option maxRecDepth 100000 in
theorem cX_orbit (l : Launch) (dC : Nat → ClassId) (dI : Nat → Nat → Nat) (h : Nat) (ad : Nat → Nat) (ca : Nat → ClassId) (sz : Nat) (tc cl : Int32) (tr : Int64) (g : Sg) (x1 : Int32) (x2 : Int32) (P : Int32 → Sg → Prop) (hw : wX_orbit P tc cl tr g x1 x2) : Met l yX0_orbit wsX0_orbit ({ frames := 5, cells := 0, slots := 0, locals := 113 }) (va_Pc [.ref h, .int x1, .int x2] (fun U => U.heap.size = sz ∧ va_P (dC, dI) vwCl (XL h ad ca tc cl tr g) U.heap ∧ va_K (dC, dI) vwCl (XT ca) U ∧ va_D (fun _ => True) (XL h ad ca tc cl tr g))) (va_Qi (fun (r : Int32) (u : Sg) => P r u) (at_X1 dC dI (va_A (XL h ad ca tc cl tr g) sz) h ad ca tc cl tr) (va_A (XL h ad ca tc cl tr g) sz)) 0 0 (va_A (XL h ad ca tc cl tr g) sz) := by
  refine Met.ofW (cc := cX0_orbit) (maxL := 3) (ret := (some .int)) (by decide) rfl ?_
  intro p e s m args below meth c s₁ B0 hml hv
  obtain ⟨hargs, hsz, hP, hK, hD0⟩ := hv
  have hx := B0.exec
  have hb := B0.bytes
  have hr := B0.returns
  have hts := atoms_spec (ws := wsX0_orbit) B0.pre
  have hown : s.vm.findClass RX0 = some m.cls := findClass_of_methodNamed B0.named
  have hlocks := B0.notSynchronized
  have inw : ∀ w ∈ wsX00, w ∈ wsX0_orbit := fun w h => List.mem_cons_of_mem _ (List.mem_append_right _ h)
  subst hsz
  have hD := hD0.self (sz := s.heap.size)
  generalize hAe : va_A (XL h ad ca tc cl tr g) s.heap.size = A at hD ⊢
  have hA : ∀ q : Nat, s.heap.size ≤ q → A q := fun q h => by rw [← hAe]; exact Or.inr h
  clear hAe hD0
  have hS : va_S A s.heap s.heap [] := va_S.rf
  subst hargs
  unfold wX_orbit at hw
  have hl := lv_entry ([.ref h, .int x1, .int x2]) (n := 3) (Nat.le_of_ble_eq_true rfl)
  rw [lg_entry_eq]
  generalize (lg_sl ([.ref h, .int x1, .int x2]) ++ List.replicate (3 - (lg_sl ([.ref h, .int x1, .int x2])).length) Slot.unset).toArray = ls at hl ⊢
  have hl : lv_has ls 3 [(0, .ref h), (1, .int x1), (2, .int x2)] := hl
  obtain ⟨H, hHe⟩ : ∃ z : Heap, z = s.heap := ⟨_, rfl⟩
  obtain ⟨locs, hLe⟩ : ∃ z : List Loc, z = [] := ⟨_, rfl⟩
  have hS : va_S A s.heap H locs := by rw [hHe, hLe]; exact hS
  have hP : va_P (dC, dI) vwCl (XL h ad ca tc cl tr g) H := by rw [hHe]; exact hP
  have hgo : W p l e (headSpec wsX0_orbit ({ frames := 5, cells := 0, slots := 0, locals := 113 })).room s m ([.ref h, .int x1, .int x2] : List Value).toArray below meth c H locs 0 0 (MQ below (va_Qi (fun (r : Int32) (u : Sg) => P r u) (at_X1 dC dI A h ad ca tc cl tr) A) ([.ref h, .int x1, .int x2] : List Value).toArray s 0 0 A) (F0 m 0 ls []) := by
    clear hHe hLe
    refine lv_aload_n hx hb dX0_orbit_0 rfl (lv_at hl 0 rfl) ?_
    refine lv_iload_n hx hb dX0_orbit_1 rfl (lv_at hl 1 rfl) ?_
    refine vp_callSi (W.runV (As := [.int x1]) (rest := []) ⟨hx, hb, hml, hown, hts⟩ (cX_isHeap l dC dI h ad ca tc cl tr g x1 _ hw) (cwV 1 hts gX0_orbit_X0_isHeap rfl rfl rfl (by decide +kernel) ⟨Nat.le_of_ble_eq_true rfl, Nat.le_of_ble_eq_true rfl⟩) ⟨fun a U g mk q => by obtain ⟨q0, qP, qK⟩ := q; exact ⟨q0, qP, va_K.moved (u := U) (U := U.calling g mk a) (Vm.Alike.refl U.vm) qK⟩, va_recv hK hP (ci := 0) (q0 := 0) rfl rfl, fun U hU hW => ⟨rfl, by rw [hU]; exact hP, va_K.moved hW.alike hK⟩⟩ rfl rfl hl.1 rfl (lv_room (Nat.le_of_ble_eq_true rfl)) dX0_orbit_2 ⟨Nat.zero_le _, Nat.zero_le _⟩) (fun r_1 hw => ?_)
    try dsimp only at hw
    refine lv_if_eq (tgt := 15) hx hb dX0_orbit_5 (by decide) (fun hc => ?_) (fun hc => ?_)
    · replace hw := hw.1 hc
      clear hc
      refine lv_iconst (v := (-1 : Int32)) hx hb dX0_orbit_15 (by decide) ?_
      exact W.iret (v := (-1 : Int32)) hx hb hr (fun t ht hW => ⟨⟨(-1 : Int32), g, rfl, hw, by rw [ht]; exact hP, va_K.moved hW.alike hK, hD⟩, hS.F ht⟩) hS.2.2 dX0_orbit_16
    · replace hw := hw.2 hc
      clear hc
      refine lv_iload_n hx hb dX0_orbit_8 rfl (lv_at hl 2 rfl) ?_
      refine vp_callSi (W.runS (As := [.int x2]) (rest := []) ⟨hx, hb, hml, hown, hts⟩ (cX_isTurnKind l x2 _ hw) (va_cwS 1 hts gX0_orbit_X0_isTurnKind rfl rfl rfl (by decide +kernel) ⟨Nat.le_of_ble_eq_true rfl, Nat.le_of_ble_eq_true rfl⟩) ⟨fun a U g mk q => q, fun U hU hW => ⟨rfl, trivial⟩⟩ rfl rfl hl.1 rfl (lv_room (Nat.le_of_ble_eq_true rfl)) dX0_orbit_9 ⟨Nat.zero_le _, Nat.zero_le _⟩) (fun r_2 hw => ?_)
      try dsimp only at hw
      refine lv_if_ne (tgt := 17) hx hb dX0_orbit_12 (by decide) (fun hc => ?_) (fun hc => ?_)
      · replace hw := hw.1 hc
        clear hc
        refine lv_aload_n hx hb dX0_orbit_17 rfl (lv_at hl 0 rfl) ?_
        refine lv_iload_n hx hb dX0_orbit_18 rfl (lv_at hl 1 rfl) ?_
        refine lv_iload_n hx hb dX0_orbit_19 rfl (lv_at hl 2 rfl) ?_
        have hFc := va_free (wc := (XL h ad ca tc cl tr g)) hD hS hA [0, 1, 2, 3, 4, 5, 6, 7, 8, 9, 10] rfl
        refine va_calli (va_runV (As := [.int x1, .int x2]) (rest := []) ⟨hx, hb, hml, hown, hts⟩ (cX_walkOrbit l dC dI h ad ca H.size tc cl tr g x1 x2 _ hw) (cwV 2 hts gX0_orbit_X0_walkOrbit rfl rfl rfl (by decide +kernel) ⟨Nat.le_of_ble_eq_true rfl, Nat.le_of_ble_eq_true rfl⟩) ⟨fun a U g mk q => by obtain ⟨q0, q1, qP, qK, qD⟩ := q; exact ⟨q0, q1, qP, va_K.moved (u := U) (U := U.calling g mk a) (Vm.Alike.refl U.vm) qK, qD⟩, va_recv hK hP (ci := 0) (q0 := 0) rfl rfl, fun U hU hW => ⟨rfl, by rw [hU], by rw [hU]; exact hP, va_K.moved hW.alike hK, hD.weaken (fun _ _ _ _ => trivial)⟩⟩ rfl rfl hl.1 rfl (lv_room (Nat.le_of_ble_eq_true rfl)) dX0_orbit_20 ⟨Nat.zero_le _, Nat.zero_le _⟩) hS (fun q _ h => hFc q h) hFc (fun r_3 g_4 t H1 locs ht hvm hw hB hz1 hk1 hS => ?_)
        obtain ⟨hP1, hK1, hD1⟩ := hB
        rw [ht] at hP1
        have hP : va_P (dC, dI) vwCl (XL h ad ca tc cl tr g_4) H1 := hP1
        have hD : va_D A (XL h ad ca tc cl tr g_4) := hD1.weaken (fun _ _ _ h => hFc _ h)
        clear hP1 hK1 hD1 hFc hk1 hz1 hvm ht
        generalize H1 = H at hP hS ⊢
        try dsimp only at hw
        exact W.iret (v := r_3) hx hb hr (fun t ht hW => ⟨⟨r_3, g_4, rfl, hw, by rw [ht]; exact hP, va_K.moved hW.alike hK, hD⟩, hS.F ht⟩) hS.2.2 dX0_orbit_23
      · replace hw := hw.2 hc
        clear hc
        refine lv_iconst (v := (-1 : Int32)) hx hb dX0_orbit_15 (by decide) ?_
        exact W.iret (v := (-1 : Int32)) hx hb hr (fun t ht hW => ⟨⟨(-1 : Int32), g, rfl, hw, by rw [ht]; exact hP, va_K.moved hW.alike hK, hD⟩, hS.F ht⟩) hS.2.2 dX0_orbit_16
  rw [hHe, hLe] at hgo
  exact hgo
-- X0_findOrbits
set_option maxHeartbeats 4000000 in
set_option maxRecDepth 100000 in
theorem cX_findOrbits (l : Launch) (dC : Nat → ClassId) (dI : Nat → Nat → Nat) (h : Nat) (ad : Nat → Nat) (ca : Nat → ClassId) (sz : Nat) (tc cl : Int32) (tr : Int64) (g : Sg) (x1 : Int32) (P : Int32 → Sg → Prop) (hw : wX_findOrbits P tc cl tr g x1) : Met l yX0_findOrbits wsX0_findOrbits ({ frames := 5, cells := 0, slots := 0, locals := 113 }) (va_Pc [.ref h, .int x1] (fun U => U.heap.size = sz ∧ va_P (dC, dI) vwCl (XL h ad ca tc cl tr g) U.heap ∧ va_K (dC, dI) vwCl (XT ca) U ∧ va_D (fun _ => True) (XL h ad ca tc cl tr g))) (va_Qi (fun (r : Int32) (u : Sg) => P r u) (at_X1 dC dI (va_A (XL h ad ca tc cl tr g) sz) h ad ca tc cl tr) (va_A (XL h ad ca tc cl tr g) sz)) 0 0 (va_A (XL h ad ca tc cl tr g) sz) := by
  refine Met.ofW (cc := cX0_findOrbits) (maxL := 4) (ret := (some .int)) (by decide) rfl ?_
  intro p e s m args below meth c s₁ B0 hml hv
  obtain ⟨hargs, hsz, hP, hK, hD0⟩ := hv
  have hx := B0.exec
  have hb := B0.bytes
  have hr := B0.returns
  have hts := atoms_spec (ws := wsX0_findOrbits) B0.pre
  have hown : s.vm.findClass RX0 = some m.cls := findClass_of_methodNamed B0.named
  have hlocks := B0.notSynchronized
  have inw : ∀ w ∈ wsX00, w ∈ wsX0_findOrbits := fun w h => List.mem_cons_of_mem _ (List.mem_append_right _ h)
  have f35 : (Cond.fieldLink RX0 35 "FlipHeaps" "starts" "[I").before args s = true := hts _ (by decide +kernel)
  have f38 : (Cond.fieldLink RX0 38 "FlipHeaps" "lengths" "[I").before args s = true := hts _ (by decide +kernel)
  have f41 : (Cond.fieldLink RX0 41 "FlipHeaps" "seen" "[Z").before args s = true := hts _ (by decide +kernel)
  subst hsz
  have hD := hD0.self (sz := s.heap.size)
  generalize hAe : va_A (XL h ad ca tc cl tr g) s.heap.size = A at hD ⊢
  have hA : ∀ q : Nat, s.heap.size ≤ q → A q := fun q h => by rw [← hAe]; exact Or.inr h
  clear hAe hD0
  have hS : va_S A s.heap s.heap [] := va_S.rf
  have jn_28 : ∀ (B : Int32 → Sg → Prop) (K35 : Sg → Prop) (x1 : Int32) (x2 : Int32) (y1 : Int32) (y2 : Int32) (g : Sg) (hB : ∀ (x2 : Int32) (g : Sg) (H : Heap) (locs : List Loc) (ls : Array Slot), B x2 g → va_P (dC, dI) vwCl (XL h ad ca tc cl tr g) H → va_D A (XL h ad ca tc cl tr g) → va_S A s.heap H locs → lv_has ls 4 [(0, .ref h), (1, .int x1), (2, .int x2)] → W p l e (headSpec wsX0_findOrbits ({ frames := 5, cells := 0, slots := 0, locals := 113 })).room s m args below meth c H locs 0 0 (MQ below (va_Qi (fun (r : Int32) (u : Sg) => P r u) (at_X1 dC dI A h ad ca tc cl tr) A) args s 0 0 A) (F0 m 2 ls [])) (hK35 : ∀ (g : Sg) (H : Heap) (locs : List Loc) (ls : Array Slot), K35 g → va_P (dC, dI) vwCl (XL h ad ca tc cl tr g) H → va_D A (XL h ad ca tc cl tr g) → va_S A s.heap H locs → lv_has ls 4 [(0, .ref h), (1, .int x1)] → W p l e (headSpec wsX0_findOrbits ({ frames := 5, cells := 0, slots := 0, locals := 113 })).room s m args below meth c H locs 0 0 (MQ below (va_Qi (fun (r : Int32) (u : Sg) => P r u) (at_X1 dC dI A h ad ca tc cl tr) A) args s 0 0 A) (F0 m 35 ls [])) (H : Heap) (locs : List Loc) (ls : Array Slot), wX_findOrbits_j28 P tc cl tr B K35 x1 x2 y1 y2 g → va_P (dC, dI) vwCl (XL h ad ca tc cl tr g) H → va_D A (XL h ad ca tc cl tr g) → va_S A s.heap H locs → lv_has ls 4 [(0, .ref h), (1, .int x1), (2, .int x2)] → W p l e (headSpec wsX0_findOrbits ({ frames := 5, cells := 0, slots := 0, locals := 113 })).room s m args below meth c H locs 0 0 (MQ below (va_Qi (fun (r : Int32) (u : Sg) => P r u) (at_X1 dC dI A h ad ca tc cl tr) A) args s 0 0 A) (F0 m 28 ls [.int y2, .int y1, .ref (ad 12)]) := by
    intro B K35 x1 x2 y1 y2 g hB hK35 H locs ls hw hP hD hS hl
    unfold wX_findOrbits_j28 at hw
    obtain ⟨hin, hw⟩ := hw
    refine va_zast hx hb hK hP hD hS 10 9 rfl rfl hin dX0_findOrbits_28 (fun H locs hP hD hS => ?_)
    obtain ⟨g_1, hg⟩ : ∃ z : Sg, z = up2 g 12 (y1).toNatClampNeg (vp_nar .boolean y2) := ⟨_, rfl⟩
    replace hw := hw g_1 hg
    have hP : va_P (dC, dI) vwCl (XL h ad ca tc cl tr g_1) H := by rw [hg]; exact hP
    have hD : va_D A (XL h ad ca tc cl tr g_1) := by rw [hg]; exact hD
    clear hg
    refine lv_iinc (v := (x2 + 1)) (lv' := [(2, .int ((x2 + 1))), (0, .ref h), (1, .int x1)]) hx hb dX0_findOrbits_29 hl (k := 2) rfl rfl (by decide) rfl (fun ls hl => ?_)
    refine lv_goto (tgt := 2) hx hb dX0_findOrbits_32 (by decide) ?_
    exact hB (x2 + 1) g_1 H locs ls hw hP hD hS (lv_sub hl [1, 2, 0] rfl)
  have lp_2 : ∀ (x1 : Int32) (K35 : Sg → Prop) (hK35 : ∀ (g : Sg) (H : Heap) (locs : List Loc) (ls : Array Slot), K35 g → va_P (dC, dI) vwCl (XL h ad ca tc cl tr g) H → va_D A (XL h ad ca tc cl tr g) → va_S A s.heap H locs → lv_has ls 4 [(0, .ref h), (1, .int x1)] → W p l e (headSpec wsX0_findOrbits ({ frames := 5, cells := 0, slots := 0, locals := 113 })).room s m args below meth c H locs 0 0 (MQ below (va_Qi (fun (r : Int32) (u : Sg) => P r u) (at_X1 dC dI A h ad ca tc cl tr) A) args s 0 0 A) (F0 m 35 ls [])), ∀ (n : Nat) (x2 : Int32) (g : Sg) (H : Heap) (locs : List Loc) (ls : Array Slot), Lp2 (wX_findOrbits_b2 P tc cl tr x1 K35) n x2 g → va_P (dC, dI) vwCl (XL h ad ca tc cl tr g) H → va_D A (XL h ad ca tc cl tr g) → va_S A s.heap H locs → lv_has ls 4 [(0, .ref h), (1, .int x1), (2, .int x2)] → W p l e (headSpec wsX0_findOrbits ({ frames := 5, cells := 0, slots := 0, locals := 113 })).room s m args below meth c H locs 0 0 (MQ below (va_Qi (fun (r : Int32) (u : Sg) => P r u) (at_X1 dC dI A h ad ca tc cl tr) A) args s 0 0 A) (F0 m 2 ls []) := by
    intro x1 K35 hK35
    intro n
    induction n with
    | zero => intro x2 g H locs ls hw; exact False.elim hw
    | succ n hB =>
      intro x2 g H locs ls hw hP hD hS hl
      replace hw : wX_findOrbits_b2 P tc cl tr x1 K35 (Lp2 (wX_findOrbits_b2 P tc cl tr x1 K35) n) x2 g := hw
      unfold wX_findOrbits_b2 at hw
      refine lv_iload_n hx hb dX0_findOrbits_2 rfl (lv_at hl 2 rfl) ?_
      refine lv_aload_n hx hb dX0_findOrbits_3 rfl (lv_at hl 0 rfl) ?_
      refine vp_callSi (W.runV (As := []) (rest := [.int x2]) ⟨hx, hb, hml, hown, hts⟩ (cX_setCount l dC dI h ad ca tc cl tr g _ hw) (cwV 0 hts gX0_findOrbits_X0_setCount rfl rfl rfl (by decide +kernel) ⟨Nat.le_of_ble_eq_true rfl, Nat.le_of_ble_eq_true rfl⟩) ⟨fun a U g mk q => by obtain ⟨q0, qP, qK⟩ := q; exact ⟨q0, qP, va_K.moved (u := U) (U := U.calling g mk a) (Vm.Alike.refl U.vm) qK⟩, va_recv hK hP (ci := 0) (q0 := 0) rfl rfl, fun U hU hW => ⟨rfl, by rw [hU]; exact hP, va_K.moved hW.alike hK⟩⟩ rfl rfl hl.1 rfl (lv_room (Nat.le_of_ble_eq_true rfl)) dX0_findOrbits_4 ⟨Nat.zero_le _, Nat.zero_le _⟩) (fun r_2 hw => ?_)
      try dsimp only at hw
      refine lv_icmp_ge (tgt := 35) hx hb dX0_findOrbits_7 (by decide) (fun hc => ?_) (fun hc => ?_)
      · replace hw := hw.1 hc
        clear hc
        exact hK35 g H locs ls hw hP hD hS (lv_sub hl [0, 1] rfl)
      · replace hw := hw.2 hc
        clear hc
        refine lv_aload_n hx hb dX0_findOrbits_10 rfl (lv_at hl 0 rfl) ?_
        refine va_get (D := (dC, dI)) (ci := 0) (C := RX0) (T := TX0) (N := 13) hx hb hts inw hown hK hP 0 rfl rfl 12 (by decide) f41 (fun _ h9 => h9) rfl dX0_findOrbits_11 ?_
        refine lv_iload_n hx hb dX0_findOrbits_14 rfl (lv_at hl 2 rfl) ?_
        refine lv_aload_n hx hb dX0_findOrbits_15 rfl (lv_at hl 0 rfl) ?_
        refine lv_iload_n hx hb dX0_findOrbits_16 rfl (lv_at hl 2 rfl) ?_
        refine vp_callSi (W.runV (As := [.int x2]) (rest := [.int x2, .ref (ad 12)]) ⟨hx, hb, hml, hown, hts⟩ (cX_isHeap l dC dI h ad ca tc cl tr g x2 _ hw) (cwV 1 hts gX0_findOrbits_X0_isHeap rfl rfl rfl (by decide +kernel) ⟨Nat.le_of_ble_eq_true rfl, Nat.le_of_ble_eq_true rfl⟩) ⟨fun a U g mk q => by obtain ⟨q0, qP, qK⟩ := q; exact ⟨q0, qP, va_K.moved (u := U) (U := U.calling g mk a) (Vm.Alike.refl U.vm) qK⟩, va_recv hK hP (ci := 0) (q0 := 0) rfl rfl, fun U hU hW => ⟨rfl, by rw [hU]; exact hP, va_K.moved hW.alike hK⟩⟩ rfl rfl hl.1 rfl (lv_room (Nat.le_of_ble_eq_true rfl)) dX0_findOrbits_17 ⟨Nat.zero_le _, Nat.zero_le _⟩) (fun r_3 hw => ?_)
        try dsimp only at hw
        refine lv_if_ne (tgt := 27) hx hb dX0_findOrbits_20 (by decide) (fun hc => ?_) (fun hc => ?_)
        · replace hw := hw.1 hc
          clear hc
          refine lv_iconst (v := (0 : Int32)) hx hb dX0_findOrbits_27 (by decide) ?_
          exact jn_28 _ _ x1 x2 x2 (0 : Int32) g hB hK35 H locs ls hw hP hD hS (lv_sub hl [0, 1, 2] rfl)
        · replace hw := hw.2 hc
          clear hc
          refine lv_iconst (v := (1 : Int32)) hx hb dX0_findOrbits_23 (by decide) ?_
          refine lv_goto (tgt := 28) hx hb dX0_findOrbits_24 (by decide) ?_
          exact jn_28 _ _ x1 x2 x2 (1 : Int32) g hB hK35 H locs ls hw hP hD hS (lv_sub hl [0, 1, 2] rfl)
  have lp_39 : ∀ (x1 : Int32), ∀ (n : Nat) (x2 : Int32) (x3 : Int32) (g : Sg) (H : Heap) (locs : List Loc) (ls : Array Slot), Lp3 (wX_findOrbits_b39 P tc cl tr x1) n x2 x3 g → va_P (dC, dI) vwCl (XL h ad ca tc cl tr g) H → va_D A (XL h ad ca tc cl tr g) → va_S A s.heap H locs → lv_has ls 4 [(0, .ref h), (1, .int x1), (2, .int x2), (3, .int x3)] → W p l e (headSpec wsX0_findOrbits ({ frames := 5, cells := 0, slots := 0, locals := 113 })).room s m args below meth c H locs 0 0 (MQ below (va_Qi (fun (r : Int32) (u : Sg) => P r u) (at_X1 dC dI A h ad ca tc cl tr) A) args s 0 0 A) (F0 m 39 ls []) := by
    intro x1
    intro n
    induction n with
    | zero => intro x2 x3 g H locs ls hw; exact False.elim hw
    | succ n hB =>
      intro x2 x3 g H locs ls hw hP hD hS hl
      replace hw : wX_findOrbits_b39 P tc cl tr x1 (Lp3 (wX_findOrbits_b39 P tc cl tr x1) n) x2 x3 g := hw
      unfold wX_findOrbits_b39 at hw
      refine lv_iload_n hx hb dX0_findOrbits_39 rfl (lv_at hl 3 rfl) ?_
      refine lv_aload_n hx hb dX0_findOrbits_40 rfl (lv_at hl 0 rfl) ?_
      refine vp_callSi (W.runV (As := []) (rest := [.int x3]) ⟨hx, hb, hml, hown, hts⟩ (cX_setCount l dC dI h ad ca tc cl tr g _ hw) (cwV 0 hts gX0_findOrbits_X0_setCount rfl rfl rfl (by decide +kernel) ⟨Nat.le_of_ble_eq_true rfl, Nat.le_of_ble_eq_true rfl⟩) ⟨fun a U g mk q => by obtain ⟨q0, qP, qK⟩ := q; exact ⟨q0, qP, va_K.moved (u := U) (U := U.calling g mk a) (Vm.Alike.refl U.vm) qK⟩, va_recv hK hP (ci := 0) (q0 := 0) rfl rfl, fun U hU hW => ⟨rfl, by rw [hU]; exact hP, va_K.moved hW.alike hK⟩⟩ rfl rfl hl.1 rfl (lv_room (Nat.le_of_ble_eq_true rfl)) dX0_findOrbits_41 ⟨Nat.zero_le _, Nat.zero_le _⟩) (fun r_4 hw => ?_)
      try dsimp only at hw
      refine lv_icmp_ge (tgt := 84) hx hb dX0_findOrbits_44 (by decide) (fun hc => ?_) (fun hc => ?_)
      · replace hw := hw.1 hc
        clear hc
        refine lv_iload_n hx hb dX0_findOrbits_84 rfl (lv_at hl 2 rfl) ?_
        exact W.iret (v := x2) hx hb hr (fun t ht hW => ⟨⟨x2, g, rfl, hw, by rw [ht]; exact hP, va_K.moved hW.alike hK, hD⟩, hS.F ht⟩) hS.2.2 dX0_findOrbits_85
      · replace hw := hw.2 hc
        clear hc
        refine lv_aload_n hx hb dX0_findOrbits_47 rfl (lv_at hl 0 rfl) ?_
        refine va_get (D := (dC, dI)) (ci := 0) (C := RX0) (T := TX0) (N := 13) hx hb hts inw hown hK hP 0 rfl rfl 12 (by decide) f41 (fun _ h9 => h9) rfl dX0_findOrbits_48 ?_
        refine lv_iload_n hx hb dX0_findOrbits_51 rfl (lv_at hl 3 rfl) ?_
        obtain ⟨hin, hw⟩ := hw
        refine va_zald hx hb hK hP 10 9 rfl rfl hin dX0_findOrbits_52 ?_
        refine lv_if_ne (tgt := 78) hx hb dX0_findOrbits_53 (by decide) (fun hc => ?_) (fun hc => ?_)
        · replace hw := hw.1 hc
          clear hc
          refine lv_iinc (v := (x3 + 1)) (lv' := [(3, .int ((x3 + 1))), (0, .ref h), (1, .int x1), (2, .int x2)]) hx hb dX0_findOrbits_78 hl (k := 3) rfl rfl (by decide) rfl (fun ls hl => ?_)
          refine lv_goto (tgt := 39) hx hb dX0_findOrbits_81 (by decide) ?_
          exact hB x2 (x3 + 1) g H locs ls hw hP hD hS (lv_sub hl [1, 2, 3, 0] rfl)
        · replace hw := hw.2 hc
          clear hc
          refine lv_aload_n hx hb dX0_findOrbits_56 rfl (lv_at hl 0 rfl) ?_
          refine va_get (D := (dC, dI)) (ci := 0) (C := RX0) (T := TX0) (N := 13) hx hb hts inw hown hK hP 0 rfl rfl 10 (by decide) f35 (fun _ h9 => h9) rfl dX0_findOrbits_57 ?_
          refine lv_iload_n hx hb dX0_findOrbits_60 rfl (lv_at hl 2 rfl) ?_
          refine lv_iload_n hx hb dX0_findOrbits_61 rfl (lv_at hl 3 rfl) ?_
          obtain ⟨hin, hw⟩ := hw
          refine va_iast hx hb hK hP hD hS 8 7 rfl rfl hin dX0_findOrbits_62 (fun H locs hP hD hS => ?_)
          obtain ⟨g_5, hg⟩ : ∃ z : Sg, z = up2 g 10 (x2).toNatClampNeg x3 := ⟨_, rfl⟩
          replace hw := hw g_5 hg
          have hP : va_P (dC, dI) vwCl (XL h ad ca tc cl tr g_5) H := by rw [hg]; exact hP
          have hD : va_D A (XL h ad ca tc cl tr g_5) := by rw [hg]; exact hD
          clear hg
          refine lv_aload_n hx hb dX0_findOrbits_63 rfl (lv_at hl 0 rfl) ?_
          refine va_get (D := (dC, dI)) (ci := 0) (C := RX0) (T := TX0) (N := 13) hx hb hts inw hown hK hP 0 rfl rfl 11 (by decide) f38 (fun _ h9 => h9) rfl dX0_findOrbits_64 ?_
          refine lv_iload_n hx hb dX0_findOrbits_67 rfl (lv_at hl 2 rfl) ?_
          refine lv_aload_n hx hb dX0_findOrbits_68 rfl (lv_at hl 0 rfl) ?_
          refine lv_iload_n hx hb dX0_findOrbits_69 rfl (lv_at hl 3 rfl) ?_
          refine lv_iload_n hx hb dX0_findOrbits_70 rfl (lv_at hl 1 rfl) ?_
          have hFc := va_free (wc := (XL h ad ca tc cl tr g_5)) hD hS hA [0, 1, 2, 3, 4, 5, 6, 7, 8, 9, 10] rfl
          refine va_calli (va_runV (As := [.int x3, .int x1]) (rest := [.int x2, .ref (ad 11)]) ⟨hx, hb, hml, hown, hts⟩ (cX_walkOrbit l dC dI h ad ca H.size tc cl tr g_5 x3 x1 _ hw) (cwV 2 hts gX0_findOrbits_X0_walkOrbit rfl rfl rfl (by decide +kernel) ⟨Nat.le_of_ble_eq_true rfl, Nat.le_of_ble_eq_true rfl⟩) ⟨fun a U g mk q => by obtain ⟨q0, q1, qP, qK, qD⟩ := q; exact ⟨q0, q1, qP, va_K.moved (u := U) (U := U.calling g mk a) (Vm.Alike.refl U.vm) qK, qD⟩, va_recv hK hP (ci := 0) (q0 := 0) rfl rfl, fun U hU hW => ⟨rfl, by rw [hU], by rw [hU]; exact hP, va_K.moved hW.alike hK, hD.weaken (fun _ _ _ _ => trivial)⟩⟩ rfl rfl hl.1 rfl (lv_room (Nat.le_of_ble_eq_true rfl)) dX0_findOrbits_71 ⟨Nat.zero_le _, Nat.zero_le _⟩) hS (fun q _ h => hFc q h) hFc (fun r_6 g_7 t H1 locs ht hvm hw hB hz1 hk1 hS => ?_)
          obtain ⟨hP1, hK1, hD1⟩ := hB
          rw [ht] at hP1
          have hP : va_P (dC, dI) vwCl (XL h ad ca tc cl tr g_7) H1 := hP1
          have hD : va_D A (XL h ad ca tc cl tr g_7) := hD1.weaken (fun _ _ _ h => hFc _ h)
          clear hP1 hK1 hD1 hFc hk1 hz1 hvm ht
          generalize H1 = H at hP hS ⊢
          try dsimp only at hw
          obtain ⟨hin, hw⟩ := hw
          refine va_iast hx hb hK hP hD hS 9 8 rfl rfl hin dX0_findOrbits_74 (fun H locs hP hD hS => ?_)
          obtain ⟨g_8, hg⟩ : ∃ z : Sg, z = up2 g_7 11 (x2).toNatClampNeg r_6 := ⟨_, rfl⟩
          replace hw := hw g_8 hg
          have hP : va_P (dC, dI) vwCl (XL h ad ca tc cl tr g_8) H := by rw [hg]; exact hP
          have hD : va_D A (XL h ad ca tc cl tr g_8) := by rw [hg]; exact hD
          clear hg
          refine lv_iinc (v := (x2 + 1)) (lv' := [(2, .int ((x2 + 1))), (0, .ref h), (1, .int x1), (3, .int x3)]) hx hb dX0_findOrbits_75 hl (k := 2) rfl rfl (by decide) rfl (fun ls hl => ?_)
          refine lv_iinc (v := (x3 + 1)) (lv' := [(3, .int ((x3 + 1))), (2, .int ((x2 + 1))), (0, .ref h), (1, .int x1)]) hx hb dX0_findOrbits_78 hl (k := 3) rfl rfl (by decide) rfl (fun ls hl => ?_)
          refine lv_goto (tgt := 39) hx hb dX0_findOrbits_81 (by decide) ?_
          exact hB (x2 + 1) (x3 + 1) g_8 H locs ls hw hP hD hS (lv_sub hl [2, 3, 1, 0] rfl)
  subst hargs
  unfold wX_findOrbits at hw
  have hl := lv_entry ([.ref h, .int x1]) (n := 4) (Nat.le_of_ble_eq_true rfl)
  rw [lg_entry_eq]
  generalize (lg_sl ([.ref h, .int x1]) ++ List.replicate (4 - (lg_sl ([.ref h, .int x1])).length) Slot.unset).toArray = ls at hl ⊢
  have hl : lv_has ls 4 [(0, .ref h), (1, .int x1)] := hl
  obtain ⟨H, hHe⟩ : ∃ z : Heap, z = s.heap := ⟨_, rfl⟩
  obtain ⟨locs, hLe⟩ : ∃ z : List Loc, z = [] := ⟨_, rfl⟩
  have hS : va_S A s.heap H locs := by rw [hHe, hLe]; exact hS
  have hP : va_P (dC, dI) vwCl (XL h ad ca tc cl tr g) H := by rw [hHe]; exact hP
  have hgo : W p l e (headSpec wsX0_findOrbits ({ frames := 5, cells := 0, slots := 0, locals := 113 })).room s m ([.ref h, .int x1] : List Value).toArray below meth c H locs 0 0 (MQ below (va_Qi (fun (r : Int32) (u : Sg) => P r u) (at_X1 dC dI A h ad ca tc cl tr) A) ([.ref h, .int x1] : List Value).toArray s 0 0 A) (F0 m 0 ls []) := by
    clear hHe hLe
    refine lv_iconst (v := (0 : Int32)) hx hb dX0_findOrbits_0 (by decide) ?_
    refine lv_istore_n (lv' := [(2, .int (0 : Int32)), (0, .ref h), (1, .int x1)]) hx hb dX0_findOrbits_1 rfl hl (by decide) rfl (fun ls hl => ?_)
    obtain ⟨n_11, hw⟩ := hw
    refine lp_2 x1 _ ?_ n_11 (0 : Int32) g H locs ls hw hP hD hS (lv_sub hl [1, 2, 0] rfl)
    · intro g_9 H locs ls hw hP hD hS hl
      try dsimp only at hw
      refine lv_iconst (v := (0 : Int32)) hx hb dX0_findOrbits_35 (by decide) ?_
      refine lv_istore_n (lv' := [(2, .int (0 : Int32)), (0, .ref h), (1, .int x1)]) hx hb dX0_findOrbits_36 rfl hl (by decide) rfl (fun ls hl => ?_)
      refine lv_iconst (v := (0 : Int32)) hx hb dX0_findOrbits_37 (by decide) ?_
      refine lv_istore_n (lv' := [(3, .int (0 : Int32)), (2, .int (0 : Int32)), (0, .ref h), (1, .int x1)]) hx hb dX0_findOrbits_38 rfl hl (by decide) rfl (fun ls hl => ?_)
      obtain ⟨n_10, hw⟩ := hw
      exact lp_39 x1 n_10 (0 : Int32) (0 : Int32) g_9 H locs ls hw hP hD hS (lv_sub hl [2, 3, 1, 0] rfl)
  rw [hHe, hLe] at hgo
  exact hgo
-- X0_commonDivisor
set_option maxHeartbeats 4000000 in
set_option maxRecDepth 100000 in
theorem cX_commonDivisor (l : Launch) (x0 : Int32) (x1 : Int32) (P : Int32 → Prop) (hw : wX_commonDivisor P x0 x1) : Met l yX0_commonDivisor wsX0_commonDivisor ({ frames := 1, cells := 0, slots := 0, locals := 21 }) (va_Pc [.int x0, .int x1] (fun _ => True)) (vp_Si P) 0 0 (fun _ => False) := by
  refine Met.ofW (cc := cX0_commonDivisor) (maxL := 6) (ret := (some .int)) (by decide) rfl ?_
  intro p e s m args below meth c s₁ B0 hml hv
  obtain ⟨hargs, -⟩ := hv
  have hx := B0.exec
  have hb := B0.bytes
  have hr := B0.returns
  have hts := atoms_spec (ws := wsX0_commonDivisor) B0.pre
  have hown : s.vm.findClass RX0 = some m.cls := findClass_of_methodNamed B0.named
  have hlocks := B0.notSynchronized
  have ml160 : (Cond.methodLink RX0 160 Lib.Math.max.name).before args s = true := hts _ (by decide +kernel)
  have msmax : (Cond.static Lib.Math.max.name).before args s = true := hts _ (by decide +kernel)
  have mcmax : (Cond.code Lib.Math.max.name Lib.Math.max.code 2 (some .int)).before args s = true := hts _ (by decide +kernel)
  have mini : (Cond.initialized "java/lang/Math").before args s = true := hts _ (by decide +kernel)
  have lp_7 : ∀ (K34 : Int32 → Prop) (hK34 : ∀ (x2 : Int32) (ls : Array Slot), K34 x2 → lv_has ls 6 [(2, .int x2)] → W p l e (headSpec wsX0_commonDivisor ({ frames := 1, cells := 0, slots := 0, locals := 21 })).room s m args below meth c s.heap [] 0 0 (MQ below (vp_Si P) args s 0 0 (fun _ => False)) (F0 m 34 ls [])), ∀ (n : Nat) (x2 : Int32) (x3 : Int32) (x4 : Int32) (ls : Array Slot), Lp3 (wX_commonDivisor_b7 P K34) n x2 x3 x4 → lv_has ls 6 [(2, .int x2), (3, .int x3), (4, .int x4)] → W p l e (headSpec wsX0_commonDivisor ({ frames := 1, cells := 0, slots := 0, locals := 21 })).room s m args below meth c s.heap [] 0 0 (MQ below (vp_Si P) args s 0 0 (fun _ => False)) (F0 m 7 ls []) := by
    intro K34 hK34
    intro n
    induction n with
    | zero => intro x2 x3 x4 ls hw; exact False.elim hw
    | succ n hB =>
      intro x2 x3 x4 ls hw hl
      replace hw : wX_commonDivisor_b7 P K34 (Lp3 (wX_commonDivisor_b7 P K34) n) x2 x3 x4 := hw
      unfold wX_commonDivisor_b7 at hw
      refine lv_iload hx hb dX0_commonDivisor_7 (lv_at hl 2 rfl) ?_
      refine lv_bipush (v := (100 : Int32)) hx hb dX0_commonDivisor_9 (by decide) ?_
      refine lv_icmp_ge (tgt := 34) hx hb dX0_commonDivisor_11 (by decide) (fun hc => ?_) (fun hc => ?_)
      · replace hw := hw.1 hc
        clear hc
        exact hK34 x2 ls hw (lv_sub hl [0] rfl)
      · replace hw := hw.2 hc
        clear hc
        refine lv_iload_n hx hb dX0_commonDivisor_14 rfl (lv_at hl 1 rfl) ?_
        refine lv_if_eq (tgt := 34) hx hb dX0_commonDivisor_15 (by decide) (fun hc => ?_) (fun hc => ?_)
        · replace hw := hw.1 hc
          clear hc
          exact hK34 x2 ls hw (lv_sub hl [0] rfl)
        · replace hw := hw.2 hc
          clear hc
          refine lv_iload_n hx hb dX0_commonDivisor_18 rfl (lv_at hl 0 rfl) ?_
          refine lv_iload_n hx hb dX0_commonDivisor_19 rfl (lv_at hl 1 rfl) ?_
          obtain ⟨hne, hw⟩ := hw
          refine lv_irem hx hb dX0_commonDivisor_20 hne ?_
          refine lv_topi (fun x5_1 hv => ?_)
          replace hw := hw x5_1 hv
          clear hv
          refine lv_istore (lv' := [(5, .int x5_1), (2, .int x2), (3, .int x3), (4, .int x4)]) hx hb dX0_commonDivisor_21 hl (by decide) rfl (fun ls hl => ?_)
          refine lv_iload_n hx hb dX0_commonDivisor_23 rfl (lv_at hl 2 rfl) ?_
          refine lv_istore_n (lv' := [(2, .int x3), (5, .int x5_1), (3, .int x3), (4, .int x4)]) hx hb dX0_commonDivisor_24 rfl hl (by decide) rfl (fun ls hl => ?_)
          refine lv_iload hx hb dX0_commonDivisor_25 (lv_at hl 1 rfl) ?_
          refine lv_istore_n (lv' := [(3, .int x5_1), (2, .int x3), (5, .int x5_1), (4, .int x4)]) hx hb dX0_commonDivisor_27 rfl hl (by decide) rfl (fun ls hl => ?_)
          refine lv_iinc (v := (x4 + 1)) (lv' := [(4, .int ((x4 + 1))), (3, .int x5_1), (2, .int x3), (5, .int x5_1)]) hx hb dX0_commonDivisor_28 hl (k := 3) rfl rfl (by decide) rfl (fun ls hl => ?_)
          refine lv_goto (tgt := 7) hx hb dX0_commonDivisor_31 (by decide) ?_
          exact hB x3 x5_1 (x4 + 1) ls hw (lv_sub hl [2, 1, 0] rfl)
  subst hargs
  unfold wX_commonDivisor at hw
  have hl := lv_entry ([.int x0, .int x1]) (n := 6) (Nat.le_of_ble_eq_true rfl)
  rw [lg_entry_eq]
  generalize (lg_sl ([.int x0, .int x1]) ++ List.replicate (6 - (lg_sl ([.int x0, .int x1])).length) Slot.unset).toArray = ls at hl ⊢
  have hl : lv_has ls 6 [(0, .int x0), (1, .int x1)] := hl
  refine lv_iload_n hx hb dX0_commonDivisor_0 rfl (lv_at hl 0 rfl) ?_
  refine lv_istore_n (lv' := [(2, .int x0), (0, .int x0), (1, .int x1)]) hx hb dX0_commonDivisor_1 rfl hl (by decide) rfl (fun ls hl => ?_)
  refine lv_iload_n hx hb dX0_commonDivisor_2 rfl (lv_at hl 2 rfl) ?_
  refine lv_istore_n (lv' := [(3, .int x1), (2, .int x0), (0, .int x0), (1, .int x1)]) hx hb dX0_commonDivisor_3 rfl hl (by decide) rfl (fun ls hl => ?_)
  refine lv_iconst (v := (0 : Int32)) hx hb dX0_commonDivisor_4 (by decide) ?_
  refine lv_istore (lv' := [(4, .int (0 : Int32)), (3, .int x1), (2, .int x0), (0, .int x0), (1, .int x1)]) hx hb dX0_commonDivisor_5 hl (by decide) rfl (fun ls hl => ?_)
  obtain ⟨n_3, hw⟩ := hw
  refine lp_7 _ ?_ n_3 x0 x1 (0 : Int32) ls hw (lv_sub hl [2, 1, 0] rfl)
  · intro x2_2 ls hw hl
    try dsimp only at hw
    refine lv_iconst (v := (1 : Int32)) hx hb dX0_commonDivisor_34 (by decide) ?_
    refine lv_iload_n hx hb dX0_commonDivisor_35 rfl (lv_at hl 0 rfl) ?_
    refine va_mmax hx hb (hml.trans hl.1.symm) hown ml160 msmax mini mcmax (Nat.le_of_ble_eq_true rfl) (Nat.le_of_ble_eq_true rfl) (Nat.zero_le _) (Nat.zero_le _) dX0_commonDivisor_36 ?_
    exact W.iret (v := (if (1 : Int32) < x2_2 then x2_2 else (1 : Int32))) hx hb hr (fun t ht hW => ⟨_, rfl, hw, ht⟩) (fun q h => absurd h List.not_mem_nil) dX0_commonDivisor_39
-- X0_orderOf
set_option maxHeartbeats 4000000 in
set_option maxRecDepth 100000 in
theorem cX_orderOf (l : Launch) (dC : Nat → ClassId) (dI : Nat → Nat → Nat) (h : Nat) (ad : Nat → Nat) (ca : Nat → ClassId) (tc cl : Int32) (tr : Int64) (g : Sg) (x1 : Int32) (P : Int32 → Prop) (hw : wX_orderOf P tc cl tr g x1) : Met l yX0_orderOf wsX0_orderOf ({ frames := 2, cells := 0, slots := 0, locals := 46 }) (va_Pc [.ref h, .int x1] (fun U => va_P (dC, dI) vwCl (XL h ad ca tc cl tr g) U.heap ∧ va_K (dC, dI) vwCl (XT ca) U)) (vp_Si P) 0 0 (fun _ => False) := by
  refine Met.ofW (cc := cX0_orderOf) (maxL := 7) (ret := (some .int)) (by decide) rfl ?_
  intro p e s m args below meth c s₁ B0 hml hv
  obtain ⟨hargs, hP, hK⟩ := hv
  have hx := B0.exec
  have hb := B0.bytes
  have hr := B0.returns
  have hts := atoms_spec (ws := wsX0_orderOf) B0.pre
  have hown : s.vm.findClass RX0 = some m.cls := findClass_of_methodNamed B0.named
  have hlocks := B0.notSynchronized
  have inw : ∀ w ∈ wsX00, w ∈ wsX0_orderOf := fun w h => List.mem_cons_of_mem _ (List.mem_append_right _ h)
  have f38 : (Cond.fieldLink RX0 38 "FlipHeaps" "lengths" "[I").before args s = true := hts _ (by decide +kernel)
  have k158 : (Cond.constantLong RX0 158 (1000000000)).before args s = true := hts _ (by decide +kernel)
  have lp_4 : ∀ (x1 : Int32), ∀ (n : Nat) (x2 : Int32) (x3 : Int32) (ls : Array Slot), Lp2 (wX_orderOf_b4 P tc cl tr g x1) n x2 x3 → lv_has ls 7 [(0, .ref h), (1, .int x1), (2, .int x2), (3, .int x3)] → W p l e (headSpec wsX0_orderOf ({ frames := 2, cells := 0, slots := 0, locals := 46 })).room s m args below meth c s.heap [] 0 0 (MQ below (vp_Si P) args s 0 0 (fun _ => False)) (F0 m 4 ls []) := by
    intro x1
    intro n
    induction n with
    | zero => intro x2 x3 ls hw; exact False.elim hw
    | succ n hB =>
      intro x2 x3 ls hw hl
      replace hw : wX_orderOf_b4 P tc cl tr g x1 (Lp2 (wX_orderOf_b4 P tc cl tr g x1) n) x2 x3 := hw
      unfold wX_orderOf_b4 at hw
      refine lv_iload_n hx hb dX0_orderOf_4 rfl (lv_at hl 3 rfl) ?_
      refine lv_iload_n hx hb dX0_orderOf_5 rfl (lv_at hl 1 rfl) ?_
      refine lv_icmp_ge (tgt := 58) hx hb dX0_orderOf_6 (by decide) (fun hc => ?_) (fun hc => ?_)
      · replace hw := hw.1 hc
        clear hc
        refine lv_iload_n hx hb dX0_orderOf_58 rfl (lv_at hl 2 rfl) ?_
        exact W.iret (v := x2) hx hb hr (fun t ht hW => ⟨_, rfl, hw, ht⟩) (fun q h => absurd h List.not_mem_nil) dX0_orderOf_59
      · replace hw := hw.2 hc
        clear hc
        refine lv_aload_n hx hb dX0_orderOf_9 rfl (lv_at hl 0 rfl) ?_
        refine va_get (D := (dC, dI)) (ci := 0) (C := RX0) (T := TX0) (N := 13) hx hb hts inw hown hK hP 0 rfl rfl 11 (by decide) f38 (fun _ h9 => h9) rfl dX0_orderOf_10 ?_
        refine lv_iload_n hx hb dX0_orderOf_13 rfl (lv_at hl 3 rfl) ?_
        obtain ⟨hin, hw⟩ := hw
        refine va_iald hx hb hK hP 9 8 rfl rfl hin dX0_orderOf_14 ?_
        refine lv_iload_n hx hb dX0_orderOf_15 rfl (lv_at hl 2 rfl) ?_
        refine lv_aload_n hx hb dX0_orderOf_16 rfl (lv_at hl 0 rfl) ?_
        refine va_get (D := (dC, dI)) (ci := 0) (C := RX0) (T := TX0) (N := 13) hx hb hts inw hown hK hP 0 rfl rfl 11 (by decide) f38 (fun _ h9 => h9) rfl dX0_orderOf_17 ?_
        refine lv_iload_n hx hb dX0_orderOf_20 rfl (lv_at hl 3 rfl) ?_
        obtain ⟨hin, hw⟩ := hw
        refine va_iald hx hb hK hP 9 8 rfl rfl hin dX0_orderOf_21 ?_
        refine vp_callSi (W.runS (As := [.int x2, .int ((g 11 (x3).toNatClampNeg))]) (rest := [.int ((g 11 (x3).toNatClampNeg))]) ⟨hx, hb, hml, hown, hts⟩ (cX_commonDivisor l x2 (g 11 (x3).toNatClampNeg) _ hw) (va_cwS 2 hts gX0_orderOf_X0_commonDivisor rfl rfl rfl (by decide +kernel) ⟨Nat.le_of_ble_eq_true rfl, Nat.le_of_ble_eq_true rfl⟩) ⟨fun a U g mk q => q, fun U hU hW => ⟨rfl, trivial⟩⟩ rfl rfl hl.1 rfl (lv_room (Nat.le_of_ble_eq_true rfl)) dX0_orderOf_22 ⟨Nat.zero_le _, Nat.zero_le _⟩) (fun r_1 hw => ?_)
        try dsimp only at hw
        obtain ⟨hne, hw⟩ := hw
        refine lv_idiv hx hb dX0_orderOf_25 hne ?_
        refine lv_topi (fun x4_2 hv => ?_)
        replace hw := hw x4_2 hv
        clear hv
        refine lv_istore (lv' := [(4, .int x4_2), (0, .ref h), (1, .int x1), (2, .int x2), (3, .int x3)]) hx hb dX0_orderOf_26 hl (by decide) rfl (fun ls hl => ?_)
        refine lv_iload_n hx hb dX0_orderOf_28 rfl (lv_at hl 3 rfl) ?_
        refine lv_i2l (v := Int32.toInt64 x2) hx hb dX0_orderOf_29 rfl ?_
        refine lv_iload hx hb dX0_orderOf_30 (lv_at hl 0 rfl) ?_
        refine lv_i2l (v := Int32.toInt64 x4_2) hx hb dX0_orderOf_32 rfl ?_
        refine lv_lmul hx hb dX0_orderOf_33 ?_
        refine lv_topl (fun x5_3 hv => ?_)
        replace hw := hw x5_3 hv
        clear hv
        refine lv_lstore (lv' := [(5, .long x5_3), (4, .int x4_2), (0, .ref h), (1, .int x1), (2, .int x2), (3, .int x3)]) hx hb dX0_orderOf_34 hl (by decide) rfl (fun ls hl => ?_)
        refine lv_lload hx hb dX0_orderOf_36 (lv_at hl 0 rfl) ?_
        refine lv_ldc2 (v := (1000000000 : Int64)) hx hb hown k158 dX0_orderOf_38 ?_
        refine W.lcmp hx hb dX0_orderOf_41 ?_
        refine lv_if_le (tgt := 48) hx hb dX0_orderOf_42 (by decide) (fun hc => ?_) (fun hc => ?_)
        · replace hw := hw.1 hc
          clear hc
          refine lv_lload hx hb dX0_orderOf_48 (lv_at hl 0 rfl) ?_
          refine lv_l2i (v := Int64.toInt32 x5_3) hx hb dX0_orderOf_50 rfl ?_
          refine lv_topi (fun x2_4 hv => ?_)
          replace hw := hw x2_4 hv
          clear hv
          refine lv_istore_n (lv' := [(2, .int x2_4), (5, .long x5_3), (4, .int x4_2), (0, .ref h), (1, .int x1), (3, .int x3)]) hx hb dX0_orderOf_51 rfl hl (by decide) rfl (fun ls hl => ?_)
          refine lv_iinc (v := (x3 + 1)) (lv' := [(3, .int ((x3 + 1))), (2, .int x2_4), (5, .long x5_3), (4, .int x4_2), (0, .ref h), (1, .int x1)]) hx hb dX0_orderOf_52 hl (k := 5) rfl rfl (by decide) rfl (fun ls hl => ?_)
          refine lv_goto (tgt := 4) hx hb dX0_orderOf_55 (by decide) ?_
          exact hB x2_4 (x3 + 1) ls hw (lv_sub hl [4, 5, 1, 0] rfl)
        · replace hw := hw.2 hc
          clear hc
          refine lv_bipush (v := (-9 : Int32)) hx hb dX0_orderOf_45 (by decide) ?_
          exact W.iret (v := (-9 : Int32)) hx hb hr (fun t ht hW => ⟨_, rfl, hw, ht⟩) (fun q h => absurd h List.not_mem_nil) dX0_orderOf_47
  subst hargs
  unfold wX_orderOf at hw
  have hl := lv_entry ([.ref h, .int x1]) (n := 7) (Nat.le_of_ble_eq_true rfl)
  rw [lg_entry_eq]
  generalize (lg_sl ([.ref h, .int x1]) ++ List.replicate (7 - (lg_sl ([.ref h, .int x1])).length) Slot.unset).toArray = ls at hl ⊢
  have hl : lv_has ls 7 [(0, .ref h), (1, .int x1)] := hl
  refine lv_iconst (v := (1 : Int32)) hx hb dX0_orderOf_0 (by decide) ?_
  refine lv_istore_n (lv' := [(2, .int (1 : Int32)), (0, .ref h), (1, .int x1)]) hx hb dX0_orderOf_1 rfl hl (by decide) rfl (fun ls hl => ?_)
  refine lv_iconst (v := (0 : Int32)) hx hb dX0_orderOf_2 (by decide) ?_
  refine lv_istore_n (lv' := [(3, .int (0 : Int32)), (2, .int (1 : Int32)), (0, .ref h), (1, .int x1)]) hx hb dX0_orderOf_3 rfl hl (by decide) rfl (fun ls hl => ?_)
  obtain ⟨n_5, hw⟩ := hw
  exact lp_4 x1 n_5 (1 : Int32) (0 : Int32) ls hw (lv_sub hl [2, 3, 1, 0] rfl)
-- X0_longestOf
set_option maxHeartbeats 4000000 in
set_option maxRecDepth 100000 in
theorem cX_longestOf (l : Launch) (dC : Nat → ClassId) (dI : Nat → Nat → Nat) (h : Nat) (ad : Nat → Nat) (ca : Nat → ClassId) (tc cl : Int32) (tr : Int64) (g : Sg) (x1 : Int32) (P : Int32 → Prop) (hw : wX_longestOf P tc cl tr g x1) : Met l yX0_longestOf wsX0_longestOf ({ frames := 1, cells := 0, slots := 0, locals := 21 }) (va_Pc [.ref h, .int x1] (fun U => va_P (dC, dI) vwCl (XL h ad ca tc cl tr g) U.heap ∧ va_K (dC, dI) vwCl (XT ca) U)) (vp_Si P) 0 0 (fun _ => False) := by
  refine Met.ofW (cc := cX0_longestOf) (maxL := 4) (ret := (some .int)) (by decide) rfl ?_
  intro p e s m args below meth c s₁ B0 hml hv
  obtain ⟨hargs, hP, hK⟩ := hv
  have hx := B0.exec
  have hb := B0.bytes
  have hr := B0.returns
  have hts := atoms_spec (ws := wsX0_longestOf) B0.pre
  have hown : s.vm.findClass RX0 = some m.cls := findClass_of_methodNamed B0.named
  have hlocks := B0.notSynchronized
  have inw : ∀ w ∈ wsX00, w ∈ wsX0_longestOf := fun w h => List.mem_cons_of_mem _ (List.mem_append_right _ h)
  have f38 : (Cond.fieldLink RX0 38 "FlipHeaps" "lengths" "[I").before args s = true := hts _ (by decide +kernel)
  have ml160 : (Cond.methodLink RX0 160 Lib.Math.max.name).before args s = true := hts _ (by decide +kernel)
  have msmax : (Cond.static Lib.Math.max.name).before args s = true := hts _ (by decide +kernel)
  have mcmax : (Cond.code Lib.Math.max.name Lib.Math.max.code 2 (some .int)).before args s = true := hts _ (by decide +kernel)
  have mini : (Cond.initialized "java/lang/Math").before args s = true := hts _ (by decide +kernel)
  have lp_4 : ∀ (x1 : Int32), ∀ (n : Nat) (x2 : Int32) (x3 : Int32) (ls : Array Slot), Lp2 (wX_longestOf_b4 P tc cl tr g x1) n x2 x3 → lv_has ls 4 [(0, .ref h), (1, .int x1), (2, .int x2), (3, .int x3)] → W p l e (headSpec wsX0_longestOf ({ frames := 1, cells := 0, slots := 0, locals := 21 })).room s m args below meth c s.heap [] 0 0 (MQ below (vp_Si P) args s 0 0 (fun _ => False)) (F0 m 4 ls []) := by
    intro x1
    intro n
    induction n with
    | zero => intro x2 x3 ls hw; exact False.elim hw
    | succ n hB =>
      intro x2 x3 ls hw hl
      replace hw : wX_longestOf_b4 P tc cl tr g x1 (Lp2 (wX_longestOf_b4 P tc cl tr g x1) n) x2 x3 := hw
      unfold wX_longestOf_b4 at hw
      refine lv_iload_n hx hb dX0_longestOf_4 rfl (lv_at hl 3 rfl) ?_
      refine lv_iload_n hx hb dX0_longestOf_5 rfl (lv_at hl 1 rfl) ?_
      refine lv_icmp_ge (tgt := 26) hx hb dX0_longestOf_6 (by decide) (fun hc => ?_) (fun hc => ?_)
      · replace hw := hw.1 hc
        clear hc
        refine lv_iload_n hx hb dX0_longestOf_26 rfl (lv_at hl 2 rfl) ?_
        exact W.iret (v := x2) hx hb hr (fun t ht hW => ⟨_, rfl, hw, ht⟩) (fun q h => absurd h List.not_mem_nil) dX0_longestOf_27
      · replace hw := hw.2 hc
        clear hc
        refine lv_iload_n hx hb dX0_longestOf_9 rfl (lv_at hl 2 rfl) ?_
        refine lv_aload_n hx hb dX0_longestOf_10 rfl (lv_at hl 0 rfl) ?_
        refine va_get (D := (dC, dI)) (ci := 0) (C := RX0) (T := TX0) (N := 13) hx hb hts inw hown hK hP 0 rfl rfl 11 (by decide) f38 (fun _ h9 => h9) rfl dX0_longestOf_11 ?_
        refine lv_iload_n hx hb dX0_longestOf_14 rfl (lv_at hl 3 rfl) ?_
        obtain ⟨hin, hw⟩ := hw
        refine va_iald hx hb hK hP 9 8 rfl rfl hin dX0_longestOf_15 ?_
        refine va_mmax hx hb (hml.trans hl.1.symm) hown ml160 msmax mini mcmax (Nat.le_of_ble_eq_true rfl) (Nat.le_of_ble_eq_true rfl) (Nat.zero_le _) (Nat.zero_le _) dX0_longestOf_16 ?_
        refine lv_topi (fun x2_1 hv => ?_)
        replace hw := hw x2_1 hv
        clear hv
        refine lv_istore_n (lv' := [(2, .int x2_1), (0, .ref h), (1, .int x1), (3, .int x3)]) hx hb dX0_longestOf_19 rfl hl (by decide) rfl (fun ls hl => ?_)
        refine lv_iinc (v := (x3 + 1)) (lv' := [(3, .int ((x3 + 1))), (2, .int x2_1), (0, .ref h), (1, .int x1)]) hx hb dX0_longestOf_20 hl (k := 3) rfl rfl (by decide) rfl (fun ls hl => ?_)
        refine lv_goto (tgt := 4) hx hb dX0_longestOf_23 (by decide) ?_
        exact hB x2_1 (x3 + 1) ls hw (lv_sub hl [2, 3, 1, 0] rfl)
  subst hargs
  unfold wX_longestOf at hw
  have hl := lv_entry ([.ref h, .int x1]) (n := 4) (Nat.le_of_ble_eq_true rfl)
  rw [lg_entry_eq]
  generalize (lg_sl ([.ref h, .int x1]) ++ List.replicate (4 - (lg_sl ([.ref h, .int x1])).length) Slot.unset).toArray = ls at hl ⊢
  have hl : lv_has ls 4 [(0, .ref h), (1, .int x1)] := hl
  refine lv_iconst (v := (0 : Int32)) hx hb dX0_longestOf_0 (by decide) ?_
  refine lv_istore_n (lv' := [(2, .int (0 : Int32)), (0, .ref h), (1, .int x1)]) hx hb dX0_longestOf_1 rfl hl (by decide) rfl (fun ls hl => ?_)
  refine lv_iconst (v := (0 : Int32)) hx hb dX0_longestOf_2 (by decide) ?_
  refine lv_istore_n (lv' := [(3, .int (0 : Int32)), (2, .int (0 : Int32)), (0, .ref h), (1, .int x1)]) hx hb dX0_longestOf_3 rfl hl (by decide) rfl (fun ls hl => ?_)
  obtain ⟨n_2, hw⟩ := hw
  exact lp_4 x1 n_2 (0 : Int32) (0 : Int32) ls hw (lv_sub hl [2, 3, 1, 0] rfl)
-- X0_orbits
set_option maxHeartbeats 4000000 in
set_option maxRecDepth 100000 in
theorem cX_orbits (l : Launch) (dC : Nat → ClassId) (dI : Nat → Nat → Nat) (h : Nat) (ad : Nat → Nat) (ca : Nat → ClassId) (sz : Nat) (tc cl : Int32) (tr : Int64) (g : Sg) (x1 : Int32) (x2 : Int32) (P : Int32 → Sg → Prop) (hw : wX_orbits P tc cl tr g x1 x2) : Met l yX0_orbits wsX0_orbits ({ frames := 6, cells := 0, slots := 0, locals := 136 }) (va_Pc [.ref h, .int x1, .int x2] (fun U => U.heap.size = sz ∧ va_P (dC, dI) vwCl (XL h ad ca tc cl tr g) U.heap ∧ va_K (dC, dI) vwCl (XT ca) U ∧ va_D (fun _ => True) (XL h ad ca tc cl tr g))) (va_Qi (fun (r : Int32) (u : Sg) => P r u) (at_X1 dC dI (va_A (XL h ad ca tc cl tr g) sz) h ad ca tc cl tr) (va_A (XL h ad ca tc cl tr g) sz)) 0 0 (va_A (XL h ad ca tc cl tr g) sz) := by
  refine Met.ofW (cc := cX0_orbits) (maxL := 4) (ret := (some .int)) (by decide) rfl ?_
  intro p e s m args below meth c s₁ B0 hml hv
  obtain ⟨hargs, hsz, hP, hK, hD0⟩ := hv
  have hx := B0.exec
  have hb := B0.bytes
  have hr := B0.returns
  have hts := atoms_spec (ws := wsX0_orbits) B0.pre
  have hown : s.vm.findClass RX0 = some m.cls := findClass_of_methodNamed B0.named
  have hlocks := B0.notSynchronized
  have inw : ∀ w ∈ wsX00, w ∈ wsX0_orbits := fun w h => List.mem_cons_of_mem _ (List.mem_append_right _ h)
  subst hsz
  have hD := hD0.self (sz := s.heap.size)
  generalize hAe : va_A (XL h ad ca tc cl tr g) s.heap.size = A at hD ⊢
  have hA : ∀ q : Nat, s.heap.size ≤ q → A q := fun q h => by rw [← hAe]; exact Or.inr h
  clear hAe hD0
  have hS : va_S A s.heap s.heap [] := va_S.rf
  subst hargs
  unfold wX_orbits at hw
  have hl := lv_entry ([.ref h, .int x1, .int x2]) (n := 4) (Nat.le_of_ble_eq_true rfl)
  rw [lg_entry_eq]
  generalize (lg_sl ([.ref h, .int x1, .int x2]) ++ List.replicate (4 - (lg_sl ([.ref h, .int x1, .int x2])).length) Slot.unset).toArray = ls at hl ⊢
  have hl : lv_has ls 4 [(0, .ref h), (1, .int x1), (2, .int x2)] := hl
  obtain ⟨H, hHe⟩ : ∃ z : Heap, z = s.heap := ⟨_, rfl⟩
  obtain ⟨locs, hLe⟩ : ∃ z : List Loc, z = [] := ⟨_, rfl⟩
  have hS : va_S A s.heap H locs := by rw [hHe, hLe]; exact hS
  have hP : va_P (dC, dI) vwCl (XL h ad ca tc cl tr g) H := by rw [hHe]; exact hP
  have hgo : W p l e (headSpec wsX0_orbits ({ frames := 6, cells := 0, slots := 0, locals := 136 })).room s m ([.ref h, .int x1, .int x2] : List Value).toArray below meth c H locs 0 0 (MQ below (va_Qi (fun (r : Int32) (u : Sg) => P r u) (at_X1 dC dI A h ad ca tc cl tr) A) ([.ref h, .int x1, .int x2] : List Value).toArray s 0 0 A) (F0 m 0 ls []) := by
    clear hHe hLe
    refine lv_iload_n hx hb dX0_orbits_0 rfl (lv_at hl 1 rfl) ?_
    refine vp_callSi (W.runS (As := [.int x1]) (rest := []) ⟨hx, hb, hml, hown, hts⟩ (cX_isTurnKind l x1 _ hw) (va_cwS 1 hts gX0_orbits_X0_isTurnKind rfl rfl rfl (by decide +kernel) ⟨Nat.le_of_ble_eq_true rfl, Nat.le_of_ble_eq_true rfl⟩) ⟨fun a U g mk q => q, fun U hU hW => ⟨rfl, trivial⟩⟩ rfl rfl hl.1 rfl (lv_room (Nat.le_of_ble_eq_true rfl)) dX0_orbits_1 ⟨Nat.zero_le _, Nat.zero_le _⟩) (fun r_1 hw => ?_)
    try dsimp only at hw
    refine lv_if_eq (tgt := 16) hx hb dX0_orbits_4 (by decide) (fun hc => ?_) (fun hc => ?_)
    · replace hw := hw.1 hc
      clear hc
      refine lv_iconst (v := (-1 : Int32)) hx hb dX0_orbits_16 (by decide) ?_
      exact W.iret (v := (-1 : Int32)) hx hb hr (fun t ht hW => ⟨⟨(-1 : Int32), g, rfl, hw, by rw [ht]; exact hP, va_K.moved hW.alike hK, hD⟩, hS.F ht⟩) hS.2.2 dX0_orbits_17
    · replace hw := hw.2 hc
      clear hc
      refine lv_iload_n hx hb dX0_orbits_7 rfl (lv_at hl 2 rfl) ?_
      refine lv_if_lt (tgt := 16) hx hb dX0_orbits_8 (by decide) (fun hc => ?_) (fun hc => ?_)
      · replace hw := hw.1 hc
        clear hc
        refine lv_iconst (v := (-1 : Int32)) hx hb dX0_orbits_16 (by decide) ?_
        exact W.iret (v := (-1 : Int32)) hx hb hr (fun t ht hW => ⟨⟨(-1 : Int32), g, rfl, hw, by rw [ht]; exact hP, va_K.moved hW.alike hK, hD⟩, hS.F ht⟩) hS.2.2 dX0_orbits_17
      · replace hw := hw.2 hc
        clear hc
        refine lv_iload_n hx hb dX0_orbits_11 rfl (lv_at hl 2 rfl) ?_
        refine lv_iconst (v := (2 : Int32)) hx hb dX0_orbits_12 (by decide) ?_
        refine lv_icmp_le (tgt := 18) hx hb dX0_orbits_13 (by decide) (fun hc => ?_) (fun hc => ?_)
        · replace hw := hw.1 hc
          clear hc
          refine lv_aload_n hx hb dX0_orbits_18 rfl (lv_at hl 0 rfl) ?_
          refine lv_iload_n hx hb dX0_orbits_19 rfl (lv_at hl 1 rfl) ?_
          have hFc := va_free (wc := (XL h ad ca tc cl tr g)) hD hS hA [0, 1, 2, 3, 4, 5, 6, 7, 8, 9, 10] rfl
          refine va_calli (va_runV (As := [.int x1]) (rest := []) ⟨hx, hb, hml, hown, hts⟩ (cX_findOrbits l dC dI h ad ca H.size tc cl tr g x1 _ hw) (cwV 1 hts gX0_orbits_X0_findOrbits rfl rfl rfl (by decide +kernel) ⟨Nat.le_of_ble_eq_true rfl, Nat.le_of_ble_eq_true rfl⟩) ⟨fun a U g mk q => by obtain ⟨q0, q1, qP, qK, qD⟩ := q; exact ⟨q0, q1, qP, va_K.moved (u := U) (U := U.calling g mk a) (Vm.Alike.refl U.vm) qK, qD⟩, va_recv hK hP (ci := 0) (q0 := 0) rfl rfl, fun U hU hW => ⟨rfl, by rw [hU], by rw [hU]; exact hP, va_K.moved hW.alike hK, hD.weaken (fun _ _ _ _ => trivial)⟩⟩ rfl rfl hl.1 rfl (lv_room (Nat.le_of_ble_eq_true rfl)) dX0_orbits_20 ⟨Nat.zero_le _, Nat.zero_le _⟩) hS (fun q _ h => hFc q h) hFc (fun r_2 g_3 t H1 locs ht hvm hw hB hz1 hk1 hS => ?_)
          obtain ⟨hP1, hK1, hD1⟩ := hB
          rw [ht] at hP1
          have hP : va_P (dC, dI) vwCl (XL h ad ca tc cl tr g_3) H1 := hP1
          have hD : va_D A (XL h ad ca tc cl tr g_3) := hD1.weaken (fun _ _ _ h => hFc _ h)
          clear hP1 hK1 hD1 hFc hk1 hz1 hvm ht
          generalize H1 = H at hP hS ⊢
          try dsimp only at hw
          refine lv_istore_n (lv' := [(3, .int r_2), (0, .ref h), (1, .int x1), (2, .int x2)]) hx hb dX0_orbits_23 rfl hl (by decide) rfl (fun ls hl => ?_)
          refine lv_iload_n hx hb dX0_orbits_24 rfl (lv_at hl 3 rfl) ?_
          refine lv_if_ne (tgt := 30) hx hb dX0_orbits_25 (by decide) (fun hc => ?_) (fun hc => ?_)
          · replace hw := hw.1 hc
            clear hc
            refine lv_iload_n hx hb dX0_orbits_30 rfl (lv_at hl 3 rfl) ?_
            refine lv_iconst (v := (1 : Int32)) hx hb dX0_orbits_31 (by decide) ?_
            refine lv_icmp_ne (tgt := 43) hx hb dX0_orbits_32 (by decide) (fun hc => ?_) (fun hc => ?_)
            · replace hw := hw.1 hc
              clear hc
              refine lv_aload_n hx hb dX0_orbits_43 rfl (lv_at hl 1 rfl) ?_
              refine lv_iload_n hx hb dX0_orbits_44 rfl (lv_at hl 0 rfl) ?_
              refine vp_callSi (W.runV (As := [.int r_2]) (rest := []) ⟨hx, hb, hml, hown, hts⟩ (cX_longestOf l dC dI h ad ca tc cl tr g_3 r_2 _ hw) (cwV 1 hts gX0_orbits_X0_longestOf rfl rfl rfl (by decide +kernel) ⟨Nat.le_of_ble_eq_true rfl, Nat.le_of_ble_eq_true rfl⟩) ⟨fun a U g mk q => by obtain ⟨q0, qP, qK⟩ := q; exact ⟨q0, qP, va_K.moved (u := U) (U := U.calling g mk a) (Vm.Alike.refl U.vm) qK⟩, va_recv hK hP (ci := 0) (q0 := 0) rfl rfl, fun U hU hW => ⟨rfl, by rw [hU]; exact hP, va_K.moved hW.alike hK⟩⟩ rfl rfl hl.1 rfl (lv_room (Nat.le_of_ble_eq_true rfl)) dX0_orbits_45 ⟨Nat.zero_le _, Nat.zero_le _⟩) (fun r_4 hw => ?_)
              try dsimp only at hw
              exact W.iret (v := r_4) hx hb hr (fun t ht hW => ⟨⟨r_4, g_3, rfl, hw, by rw [ht]; exact hP, va_K.moved hW.alike hK, hD⟩, hS.F ht⟩) hS.2.2 dX0_orbits_48
            · replace hw := hw.2 hc
              clear hc
              refine lv_aload_n hx hb dX0_orbits_35 rfl (lv_at hl 1 rfl) ?_
              refine lv_iload_n hx hb dX0_orbits_36 rfl (lv_at hl 0 rfl) ?_
              refine vp_callSi (W.runV (As := [.int r_2]) (rest := []) ⟨hx, hb, hml, hown, hts⟩ (cX_orderOf l dC dI h ad ca tc cl tr g_3 r_2 _ hw) (cwV 1 hts gX0_orbits_X0_orderOf rfl rfl rfl (by decide +kernel) ⟨Nat.le_of_ble_eq_true rfl, Nat.le_of_ble_eq_true rfl⟩) ⟨fun a U g mk q => by obtain ⟨q0, qP, qK⟩ := q; exact ⟨q0, qP, va_K.moved (u := U) (U := U.calling g mk a) (Vm.Alike.refl U.vm) qK⟩, va_recv hK hP (ci := 0) (q0 := 0) rfl rfl, fun U hU hW => ⟨rfl, by rw [hU]; exact hP, va_K.moved hW.alike hK⟩⟩ rfl rfl hl.1 rfl (lv_room (Nat.le_of_ble_eq_true rfl)) dX0_orbits_37 ⟨Nat.zero_le _, Nat.zero_le _⟩) (fun r_5 hw => ?_)
              try dsimp only at hw
              refine lv_goto (tgt := 48) hx hb dX0_orbits_40 (by decide) ?_
              exact W.iret (v := r_5) hx hb hr (fun t ht hW => ⟨⟨r_5, g_3, rfl, hw, by rw [ht]; exact hP, va_K.moved hW.alike hK, hD⟩, hS.F ht⟩) hS.2.2 dX0_orbits_48
          · replace hw := hw.2 hc
            clear hc
            refine lv_iload_n hx hb dX0_orbits_28 rfl (lv_at hl 0 rfl) ?_
            exact W.iret (v := r_2) hx hb hr (fun t ht hW => ⟨⟨r_2, g_3, rfl, hw, by rw [ht]; exact hP, va_K.moved hW.alike hK, hD⟩, hS.F ht⟩) hS.2.2 dX0_orbits_29
        · replace hw := hw.2 hc
          clear hc
          refine lv_iconst (v := (-1 : Int32)) hx hb dX0_orbits_16 (by decide) ?_
          exact W.iret (v := (-1 : Int32)) hx hb hr (fun t ht hW => ⟨⟨(-1 : Int32), g, rfl, hw, by rw [ht]; exact hP, va_K.moved hW.alike hK, hD⟩, hS.F ht⟩) hS.2.2 dX0_orbits_17
  rw [hHe, hLe] at hgo
  exact hgo
