set_option maxHeartbeats 4000000 in
set_option maxRecDepth 100000 in
theorem law_things {p : Program} {l : Launch} {e : Env} {s : State} {m : MethodId} {below : List Frame} {meth : Method} {c : Code} {dC : Nat → ClassId} {dI : Nat → Nat → Nat} {b L : Nat} {xs : Nat → Int32} {hX hM : Nat} {aX aM : Nat → Nat} {cX cM : Nat → ClassId} (Rel : Int32 → Int32 → Int64 → Sg → Int32 → Int32 → Int64 → Sg → Prop) (St_things : Step_things Rel) (C0 : lw_At p s m meth c b L xs) (hK : va_K (dC, dI) vwCl (XT cX ++ MT cM) s) (x3 : Int32) (hi1 : vp_in (x3 + 1) L) (hi2 : vp_in (x3 + 2) L) (hi3 : vp_in (x3 + 3) L) (hi4 : vp_in (x3 + 4) L) (hnext : ∀ (H : Heap) (locs : List Loc) (ls : Array Slot) (tc cl : Int32) (tr : Int64) (g : Sg) (tc' cl' : Int32) (tr' : Int64) (g' : Sg), Rel tc cl tr g tc' cl' tr' g' → va_P (dC, dI) vwCl ((XL hX aX cX tc cl tr g) ++ (ML hM aM cM tc' cl' tr' g')) H → va_D (fun q : Nat => s.heap.size ≤ q) ((XL hX aX cX tc cl tr g) ++ (ML hM aM cM tc' cl' tr' g')) → va_S (fun q : Nat => s.heap.size ≤ q) s.heap H locs → lv_has ls 4 [(0, .ref b), (1, .ref hX), (2, .ref hM), (3, .int x3)] → W p l e room_1 s m #[Value.ref b] below meth c H locs 18 1461 (lw_Z below #[Value.ref b] s) (F0 m 867 ls [])) : ∀ (H : Heap) (locs : List Loc) (ls : Array Slot) (tc cl : Int32) (tr : Int64) (g : Sg) (tc' cl' : Int32) (tr' : Int64) (g' : Sg), Rel tc cl tr g tc' cl' tr' g' → va_P (dC, dI) vwCl ((XL hX aX cX tc cl tr g) ++ (ML hM aM cM tc' cl' tr' g')) H → va_D (fun q : Nat => s.heap.size ≤ q) ((XL hX aX cX tc cl tr g) ++ (ML hM aM cM tc' cl' tr' g')) → va_S (fun q : Nat => s.heap.size ≤ q) s.heap H locs → lv_has ls 4 [(0, .ref b), (1, .ref hX), (2, .ref hM), (3, .int x3)] → W p l e room_1 s m #[Value.ref b] below meth c H locs 18 1461 (lw_Z below #[Value.ref b] s) (F0 m 144 ls []) := by
  obtain ⟨hx, hb, hr, hml, hown, hts, hSc, hbl, hlocks, hgv⟩ := C0
  have hts := fun w h => hts w (wsL_law_in w h)
  have hown : s.vm.findClass RL = some m.cls := hown
  have hb : c.code = cL_law := hb
  have hA : ∀ q : Nat, s.heap.size ≤ q → (fun q : Nat => s.heap.size ≤ q) q := fun _ h => h
  have hbA : ¬ (fun q : Nat => s.heap.size ≤ q) b := Nat.not_le.mpr hbl
  have hKX := hK.sub (tys' := XT cX) [0, 1, 2, 3, 4, 5, 6, 7, 8, 9] rfl
  have hKM := hK.sub (tys' := MT cM) [10, 11, 12, 13, 14, 15] rfl
  intro H locs ls tc cl tr g tc' cl' tr' g' hRel hP hD hS hl
  have hw := St_things tc cl tr g tc' cl' tr' g' (xs (x3 + 1).toNatClampNeg) hRel
  refine lv_aload_n hx hb dL_law_144 rfl (lv_at hl 1 rfl) ?_
  refine lv_aload_n hx hb dL_law_145 rfl (lv_at hl 0 rfl) ?_
  refine lv_iload_n hx hb dL_law_146 rfl (lv_at hl 3 rfl) ?_
  refine lv_iconst (v := 1) hx hb dL_law_147 (by decide) ?_
  refine lv_iadd hx hb dL_law_148 ?_
  refine va_sld hx hb hSc hbl hbA hS hi1 dL_law_149 ?_
  have hPc := hP.sub (ws' := (XL hX aX cX tc cl tr g)) [0, 1, 2, 3, 4, 5, 6, 7, 8, 9, 10] rfl
  have hDc := hD.sub (ws' := (XL hX aX cX tc cl tr g)) [0, 1, 2, 3, 4, 5, 6, 7, 8, 9, 10] (by decide) rfl
  have hFc := va_free (wc := (XL hX aX cX tc cl tr g)) hD hS hA [0, 1, 2, 3, 4, 5, 6, 7, 8, 9, 10] rfl
  refine va_calli (va_runV (As := [.int (xs (x3 + 1).toNatClampNeg)]) (rest := []) ⟨hx, hb, hml, hown, hts⟩ (cX_things l dC dI hX aX cX H.size tc cl tr g (xs (x3 + 1).toNatClampNeg) _ hw) (cwV 1 hts gL_law_X0_things rfl rfl rfl (by decide +kernel) ⟨Nat.le_of_ble_eq_true rfl, Nat.le_of_ble_eq_true rfl⟩) ⟨fun a U g mk q => by obtain ⟨q0, q1, qP, qK, qD⟩ := q; exact ⟨q0, q1, qP, va_K.moved (u := U) (U := U.calling g mk a) (Vm.Alike.refl U.vm) qK, qD⟩, va_recv hKX hPc (ci := 0) (q0 := 0) rfl rfl, fun U hU hW => ⟨rfl, by rw [hU], by rw [hU]; exact hPc, va_K.moved hW.alike hKX, hDc.weaken (fun _ _ _ _ => trivial)⟩⟩ rfl rfl hl.1 rfl (lv_room (Nat.le_of_ble_eq_true rfl)) dL_law_150 ⟨Nat.le_of_ble_eq_true rfl, Nat.le_of_ble_eq_true rfl⟩) hS (fun q _ h => hFc q h) hFc (fun r0 u t H1 locs ht hvm hw hB hz1 hk1 hS => ?_)
  obtain ⟨tc_0, cl_0, tr_0, g_0⟩ := u
  obtain ⟨hP1, hK1, hD1⟩ := hB
  rw [ht] at hP1
  obtain ⟨hP, hD⟩ := va_join (wr := (ML hM aM cM tc' cl' tr' g')) (w1 := (XL hX aX cX tc_0 cl_0 tr_0 g_0)) hP hD [0, 1, 2, 3, 4, 5, 6, 7, 8, 9, 10] [11, 12, 13, 14, 15, 16, 17] rfl rfl (by decide) (by decide) hk1 hFc hP1 hD1
  have hP := hP.sub (ws' := ((XL hX aX cX tc_0 cl_0 tr_0 g_0) ++ (ML hM aM cM tc' cl' tr' g'))) [7, 8, 9, 10, 11, 12, 13, 14, 15, 16, 17, 0, 1, 2, 3, 4, 5, 6] rfl
  have hD := hD.sub (ws' := ((XL hX aX cX tc_0 cl_0 tr_0 g_0) ++ (ML hM aM cM tc' cl' tr' g'))) [7, 8, 9, 10, 11, 12, 13, 14, 15, 16, 17, 0, 1, 2, 3, 4, 5, 6] (by decide) rfl
  clear hP1 hK1 hD1 hFc hk1 hz1 hvm ht hPc hDc
  generalize H1 = H at hP hS ⊢
  try dsimp only at hw
  refine lv_aload_n hx hb dL_law_153 rfl (lv_at hl 2 rfl) ?_
  refine lv_aload_n hx hb dL_law_154 rfl (lv_at hl 0 rfl) ?_
  refine lv_iload_n hx hb dL_law_155 rfl (lv_at hl 3 rfl) ?_
  refine lv_iconst (v := 1) hx hb dL_law_156 (by decide) ?_
  refine lv_iadd hx hb dL_law_157 ?_
  refine va_sld hx hb hSc hbl hbA hS hi1 dL_law_158 ?_
  have hPc := hP.sub (ws' := (ML hM aM cM tc' cl' tr' g')) [11, 12, 13, 14, 15, 16, 17] rfl
  have hDc := hD.sub (ws' := (ML hM aM cM tc' cl' tr' g')) [11, 12, 13, 14, 15, 16, 17] (by decide) rfl
  have hFc := va_free (wc := (ML hM aM cM tc' cl' tr' g')) hD hS hA [11, 12, 13, 14, 15, 16, 17] rfl
  refine va_calli (va_runV (As := [.int (xs (x3 + 1).toNatClampNeg)]) (rest := [.int r0]) ⟨hx, hb, hml, hown, hts⟩ (cM_things l dC dI hM aM cM H.size tc' cl' tr' g' (xs (x3 + 1).toNatClampNeg) _ hw) (cwV 1 hts gL_law_X1_things rfl rfl rfl (by decide +kernel) ⟨Nat.le_of_ble_eq_true rfl, Nat.le_of_ble_eq_true rfl⟩) ⟨fun a U g mk q => by obtain ⟨q0, q1, qP, qK, qD⟩ := q; exact ⟨q0, q1, qP, va_K.moved (u := U) (U := U.calling g mk a) (Vm.Alike.refl U.vm) qK, qD⟩, va_recv hKM hPc (ci := 1) (q0 := 0) rfl rfl, fun U hU hW => ⟨rfl, by rw [hU], by rw [hU]; exact hPc, va_K.moved hW.alike hKM, hDc.weaken (fun _ _ _ _ => trivial)⟩⟩ rfl rfl hl.1 rfl (lv_room (Nat.le_of_ble_eq_true rfl)) dL_law_159 ⟨Nat.le_of_ble_eq_true rfl, Nat.le_of_ble_eq_true rfl⟩) hS (fun q _ h => hFc q h) hFc (fun r1 u t H1 locs ht hvm hw hB hz1 hk1 hS => ?_)
  obtain ⟨tc_1, cl_1, tr_1, g_1⟩ := u
  obtain ⟨hP1, hK1, hD1⟩ := hB
  rw [ht] at hP1
  obtain ⟨hP, hD⟩ := va_join (wr := (XL hX aX cX tc_0 cl_0 tr_0 g_0)) (w1 := (ML hM aM cM tc_1 cl_1 tr_1 g_1)) hP hD [11, 12, 13, 14, 15, 16, 17] [0, 1, 2, 3, 4, 5, 6, 7, 8, 9, 10] rfl rfl (by decide) (by decide) hk1 hFc hP1 hD1
  clear hP1 hK1 hD1 hFc hk1 hz1 hvm ht hPc hDc
  generalize H1 = H at hP hS ⊢
  try dsimp only at hw
  refine lv_icmp_eq (tgt := 867) hx hb dL_law_162 (by decide) (fun hc => ?_) (fun hc => ?_)
  · exact hnext H locs ls tc_0 cl_0 tr_0 g_0 tc_1 cl_1 tr_1 g_1 hw.2 hP hD hS hl
  · exact absurd hw.1 hc
set_option maxHeartbeats 4000000 in
set_option maxRecDepth 100000 in
theorem law_lay {p : Program} {l : Launch} {e : Env} {s : State} {m : MethodId} {below : List Frame} {meth : Method} {c : Code} {dC : Nat → ClassId} {dI : Nat → Nat → Nat} {b L : Nat} {xs : Nat → Int32} {hX hM : Nat} {aX aM : Nat → Nat} {cX cM : Nat → ClassId} (Rel : Int32 → Int32 → Int64 → Sg → Int32 → Int32 → Int64 → Sg → Prop) (St_lay : Step_lay Rel) (C0 : lw_At p s m meth c b L xs) (hK : va_K (dC, dI) vwCl (XT cX ++ MT cM) s) (x3 : Int32) (hi1 : vp_in (x3 + 1) L) (hi2 : vp_in (x3 + 2) L) (hi3 : vp_in (x3 + 3) L) (hi4 : vp_in (x3 + 4) L) (hnext : ∀ (H : Heap) (locs : List Loc) (ls : Array Slot) (tc cl : Int32) (tr : Int64) (g : Sg) (tc' cl' : Int32) (tr' : Int64) (g' : Sg), Rel tc cl tr g tc' cl' tr' g' → va_P (dC, dI) vwCl ((XL hX aX cX tc cl tr g) ++ (ML hM aM cM tc' cl' tr' g')) H → va_D (fun q : Nat => s.heap.size ≤ q) ((XL hX aX cX tc cl tr g) ++ (ML hM aM cM tc' cl' tr' g')) → va_S (fun q : Nat => s.heap.size ≤ q) s.heap H locs → lv_has ls 4 [(0, .ref b), (1, .ref hX), (2, .ref hM), (3, .int x3)] → W p l e room_1 s m #[Value.ref b] below meth c H locs 18 1461 (lw_Z below #[Value.ref b] s) (F0 m 867 ls [])) : ∀ (H : Heap) (locs : List Loc) (ls : Array Slot) (tc cl : Int32) (tr : Int64) (g : Sg) (tc' cl' : Int32) (tr' : Int64) (g' : Sg), Rel tc cl tr g tc' cl' tr' g' → va_P (dC, dI) vwCl ((XL hX aX cX tc cl tr g) ++ (ML hM aM cM tc' cl' tr' g')) H → va_D (fun q : Nat => s.heap.size ≤ q) ((XL hX aX cX tc cl tr g) ++ (ML hM aM cM tc' cl' tr' g')) → va_S (fun q : Nat => s.heap.size ≤ q) s.heap H locs → lv_has ls 4 [(0, .ref b), (1, .ref hX), (2, .ref hM), (3, .int x3)] → W p l e room_1 s m #[Value.ref b] below meth c H locs 18 1461 (lw_Z below #[Value.ref b] s) (F0 m 167 ls []) := by
  obtain ⟨hx, hb, hr, hml, hown, hts, hSc, hbl, hlocks, hgv⟩ := C0
  have hts := fun w h => hts w (wsL_law_in w h)
  have hown : s.vm.findClass RL = some m.cls := hown
  have hb : c.code = cL_law := hb
  have hA : ∀ q : Nat, s.heap.size ≤ q → (fun q : Nat => s.heap.size ≤ q) q := fun _ h => h
  have hbA : ¬ (fun q : Nat => s.heap.size ≤ q) b := Nat.not_le.mpr hbl
  have hKX := hK.sub (tys' := XT cX) [0, 1, 2, 3, 4, 5, 6, 7, 8, 9] rfl
  have hKM := hK.sub (tys' := MT cM) [10, 11, 12, 13, 14, 15] rfl
  intro H locs ls tc cl tr g tc' cl' tr' g' hRel hP hD hS hl
  have hw := St_lay tc cl tr g tc' cl' tr' g' (xs (x3 + 1).toNatClampNeg) (xs (x3 + 2).toNatClampNeg) hRel
  refine lv_aload_n hx hb dL_law_167 rfl (lv_at hl 1 rfl) ?_
  refine lv_aload_n hx hb dL_law_168 rfl (lv_at hl 0 rfl) ?_
  refine lv_iload_n hx hb dL_law_169 rfl (lv_at hl 3 rfl) ?_
  refine lv_iconst (v := 1) hx hb dL_law_170 (by decide) ?_
  refine lv_iadd hx hb dL_law_171 ?_
  refine va_sld hx hb hSc hbl hbA hS hi1 dL_law_172 ?_
  refine lv_aload_n hx hb dL_law_173 rfl (lv_at hl 0 rfl) ?_
  refine lv_iload_n hx hb dL_law_174 rfl (lv_at hl 3 rfl) ?_
  refine lv_iconst (v := 2) hx hb dL_law_175 (by decide) ?_
  refine lv_iadd hx hb dL_law_176 ?_
  refine va_sld hx hb hSc hbl hbA hS hi2 dL_law_177 ?_
  have hPc := hP.sub (ws' := (XL hX aX cX tc cl tr g)) [0, 1, 2, 3, 4, 5, 6, 7, 8, 9, 10] rfl
  have hDc := hD.sub (ws' := (XL hX aX cX tc cl tr g)) [0, 1, 2, 3, 4, 5, 6, 7, 8, 9, 10] (by decide) rfl
  have hFc := va_free (wc := (XL hX aX cX tc cl tr g)) hD hS hA [0, 1, 2, 3, 4, 5, 6, 7, 8, 9, 10] rfl
  refine va_calli (va_runV (As := [.int (xs (x3 + 1).toNatClampNeg), .int (xs (x3 + 2).toNatClampNeg)]) (rest := []) ⟨hx, hb, hml, hown, hts⟩ (cX_lay l dC dI hX aX cX H.size tc cl tr g (xs (x3 + 1).toNatClampNeg) (xs (x3 + 2).toNatClampNeg) _ hw) (cwV 2 hts gL_law_X0_lay rfl rfl rfl (by decide +kernel) ⟨Nat.le_of_ble_eq_true rfl, Nat.le_of_ble_eq_true rfl⟩) ⟨fun a U g mk q => by obtain ⟨q0, q1, qP, qK, qD⟩ := q; exact ⟨q0, q1, qP, va_K.moved (u := U) (U := U.calling g mk a) (Vm.Alike.refl U.vm) qK, qD⟩, va_recv hKX hPc (ci := 0) (q0 := 0) rfl rfl, fun U hU hW => ⟨rfl, by rw [hU], by rw [hU]; exact hPc, va_K.moved hW.alike hKX, hDc.weaken (fun _ _ _ _ => trivial)⟩⟩ rfl rfl hl.1 rfl (lv_room (Nat.le_of_ble_eq_true rfl)) dL_law_178 ⟨Nat.le_of_ble_eq_true rfl, Nat.le_of_ble_eq_true rfl⟩) hS (fun q _ h => hFc q h) hFc (fun r0 g_0 t H1 locs ht hvm hw hB hz1 hk1 hS => ?_)
  obtain ⟨hP1, hK1, hD1⟩ := hB
  rw [ht] at hP1
  obtain ⟨hP, hD⟩ := va_join (wr := (ML hM aM cM tc' cl' tr' g')) (w1 := (XL hX aX cX tc cl tr g_0)) hP hD [0, 1, 2, 3, 4, 5, 6, 7, 8, 9, 10] [11, 12, 13, 14, 15, 16, 17] rfl rfl (by decide) (by decide) hk1 hFc hP1 hD1
  have hP := hP.sub (ws' := ((XL hX aX cX tc cl tr g_0) ++ (ML hM aM cM tc' cl' tr' g'))) [7, 8, 9, 10, 11, 12, 13, 14, 15, 16, 17, 0, 1, 2, 3, 4, 5, 6] rfl
  have hD := hD.sub (ws' := ((XL hX aX cX tc cl tr g_0) ++ (ML hM aM cM tc' cl' tr' g'))) [7, 8, 9, 10, 11, 12, 13, 14, 15, 16, 17, 0, 1, 2, 3, 4, 5, 6] (by decide) rfl
  clear hP1 hK1 hD1 hFc hk1 hz1 hvm ht hPc hDc
  generalize H1 = H at hP hS ⊢
  try dsimp only at hw
  refine lv_aload_n hx hb dL_law_181 rfl (lv_at hl 2 rfl) ?_
  refine lv_aload_n hx hb dL_law_182 rfl (lv_at hl 0 rfl) ?_
  refine lv_iload_n hx hb dL_law_183 rfl (lv_at hl 3 rfl) ?_
  refine lv_iconst (v := 1) hx hb dL_law_184 (by decide) ?_
  refine lv_iadd hx hb dL_law_185 ?_
  refine va_sld hx hb hSc hbl hbA hS hi1 dL_law_186 ?_
  refine lv_aload_n hx hb dL_law_187 rfl (lv_at hl 0 rfl) ?_
  refine lv_iload_n hx hb dL_law_188 rfl (lv_at hl 3 rfl) ?_
  refine lv_iconst (v := 2) hx hb dL_law_189 (by decide) ?_
  refine lv_iadd hx hb dL_law_190 ?_
  refine va_sld hx hb hSc hbl hbA hS hi2 dL_law_191 ?_
  have hPc := hP.sub (ws' := (ML hM aM cM tc' cl' tr' g')) [11, 12, 13, 14, 15, 16, 17] rfl
  have hDc := hD.sub (ws' := (ML hM aM cM tc' cl' tr' g')) [11, 12, 13, 14, 15, 16, 17] (by decide) rfl
  have hFc := va_free (wc := (ML hM aM cM tc' cl' tr' g')) hD hS hA [11, 12, 13, 14, 15, 16, 17] rfl
  refine va_calli (va_runV (As := [.int (xs (x3 + 1).toNatClampNeg), .int (xs (x3 + 2).toNatClampNeg)]) (rest := [.int r0]) ⟨hx, hb, hml, hown, hts⟩ (cM_lay l dC dI hM aM cM H.size tc' cl' tr' g' (xs (x3 + 1).toNatClampNeg) (xs (x3 + 2).toNatClampNeg) _ hw) (cwV 2 hts gL_law_X1_lay rfl rfl rfl (by decide +kernel) ⟨Nat.le_of_ble_eq_true rfl, Nat.le_of_ble_eq_true rfl⟩) ⟨fun a U g mk q => by obtain ⟨q0, q1, qP, qK, qD⟩ := q; exact ⟨q0, q1, qP, va_K.moved (u := U) (U := U.calling g mk a) (Vm.Alike.refl U.vm) qK, qD⟩, va_recv hKM hPc (ci := 1) (q0 := 0) rfl rfl, fun U hU hW => ⟨rfl, by rw [hU], by rw [hU]; exact hPc, va_K.moved hW.alike hKM, hDc.weaken (fun _ _ _ _ => trivial)⟩⟩ rfl rfl hl.1 rfl (lv_room (Nat.le_of_ble_eq_true rfl)) dL_law_192 ⟨Nat.le_of_ble_eq_true rfl, Nat.le_of_ble_eq_true rfl⟩) hS (fun q _ h => hFc q h) hFc (fun r1 g_1 t H1 locs ht hvm hw hB hz1 hk1 hS => ?_)
  obtain ⟨hP1, hK1, hD1⟩ := hB
  rw [ht] at hP1
  obtain ⟨hP, hD⟩ := va_join (wr := (XL hX aX cX tc cl tr g_0)) (w1 := (ML hM aM cM tc' cl' tr' g_1)) hP hD [11, 12, 13, 14, 15, 16, 17] [0, 1, 2, 3, 4, 5, 6, 7, 8, 9, 10] rfl rfl (by decide) (by decide) hk1 hFc hP1 hD1
  clear hP1 hK1 hD1 hFc hk1 hz1 hvm ht hPc hDc
  generalize H1 = H at hP hS ⊢
  try dsimp only at hw
  refine lv_icmp_eq (tgt := 867) hx hb dL_law_195 (by decide) (fun hc => ?_) (fun hc => ?_)
  · exact hnext H locs ls tc cl tr g_0 tc' cl' tr' g_1 hw.2 hP hD hS hl
  · exact absurd hw.1 hc
set_option maxHeartbeats 4000000 in
set_option maxRecDepth 100000 in
theorem law_below {p : Program} {l : Launch} {e : Env} {s : State} {m : MethodId} {below : List Frame} {meth : Method} {c : Code} {dC : Nat → ClassId} {dI : Nat → Nat → Nat} {b L : Nat} {xs : Nat → Int32} {hX hM : Nat} {aX aM : Nat → Nat} {cX cM : Nat → ClassId} (Rel : Int32 → Int32 → Int64 → Sg → Int32 → Int32 → Int64 → Sg → Prop) (St_below : Step_below Rel) (C0 : lw_At p s m meth c b L xs) (hK : va_K (dC, dI) vwCl (XT cX ++ MT cM) s) (x3 : Int32) (hi1 : vp_in (x3 + 1) L) (hi2 : vp_in (x3 + 2) L) (hi3 : vp_in (x3 + 3) L) (hi4 : vp_in (x3 + 4) L) (hnext : ∀ (H : Heap) (locs : List Loc) (ls : Array Slot) (tc cl : Int32) (tr : Int64) (g : Sg) (tc' cl' : Int32) (tr' : Int64) (g' : Sg), Rel tc cl tr g tc' cl' tr' g' → va_P (dC, dI) vwCl ((XL hX aX cX tc cl tr g) ++ (ML hM aM cM tc' cl' tr' g')) H → va_D (fun q : Nat => s.heap.size ≤ q) ((XL hX aX cX tc cl tr g) ++ (ML hM aM cM tc' cl' tr' g')) → va_S (fun q : Nat => s.heap.size ≤ q) s.heap H locs → lv_has ls 4 [(0, .ref b), (1, .ref hX), (2, .ref hM), (3, .int x3)] → W p l e room_1 s m #[Value.ref b] below meth c H locs 18 1461 (lw_Z below #[Value.ref b] s) (F0 m 867 ls [])) : ∀ (H : Heap) (locs : List Loc) (ls : Array Slot) (tc cl : Int32) (tr : Int64) (g : Sg) (tc' cl' : Int32) (tr' : Int64) (g' : Sg), Rel tc cl tr g tc' cl' tr' g' → va_P (dC, dI) vwCl ((XL hX aX cX tc cl tr g) ++ (ML hM aM cM tc' cl' tr' g')) H → va_D (fun q : Nat => s.heap.size ≤ q) ((XL hX aX cX tc cl tr g) ++ (ML hM aM cM tc' cl' tr' g')) → va_S (fun q : Nat => s.heap.size ≤ q) s.heap H locs → lv_has ls 4 [(0, .ref b), (1, .ref hX), (2, .ref hM), (3, .int x3)] → W p l e room_1 s m #[Value.ref b] below meth c H locs 18 1461 (lw_Z below #[Value.ref b] s) (F0 m 200 ls []) := by
  obtain ⟨hx, hb, hr, hml, hown, hts, hSc, hbl, hlocks, hgv⟩ := C0
  have hts := fun w h => hts w (wsL_law_in w h)
  have hown : s.vm.findClass RL = some m.cls := hown
  have hb : c.code = cL_law := hb
  have hA : ∀ q : Nat, s.heap.size ≤ q → (fun q : Nat => s.heap.size ≤ q) q := fun _ h => h
  have hbA : ¬ (fun q : Nat => s.heap.size ≤ q) b := Nat.not_le.mpr hbl
  have hKX := hK.sub (tys' := XT cX) [0, 1, 2, 3, 4, 5, 6, 7, 8, 9] rfl
  have hKM := hK.sub (tys' := MT cM) [10, 11, 12, 13, 14, 15] rfl
  intro H locs ls tc cl tr g tc' cl' tr' g' hRel hP hD hS hl
  have hw := St_below tc cl tr g tc' cl' tr' g' (xs (x3 + 1).toNatClampNeg) (xs (x3 + 2).toNatClampNeg) hRel
  refine lv_aload_n hx hb dL_law_200 rfl (lv_at hl 1 rfl) ?_
  refine lv_aload_n hx hb dL_law_201 rfl (lv_at hl 0 rfl) ?_
  refine lv_iload_n hx hb dL_law_202 rfl (lv_at hl 3 rfl) ?_
  refine lv_iconst (v := 1) hx hb dL_law_203 (by decide) ?_
  refine lv_iadd hx hb dL_law_204 ?_
  refine va_sld hx hb hSc hbl hbA hS hi1 dL_law_205 ?_
  refine lv_aload_n hx hb dL_law_206 rfl (lv_at hl 0 rfl) ?_
  refine lv_iload_n hx hb dL_law_207 rfl (lv_at hl 3 rfl) ?_
  refine lv_iconst (v := 2) hx hb dL_law_208 (by decide) ?_
  refine lv_iadd hx hb dL_law_209 ?_
  refine va_sld hx hb hSc hbl hbA hS hi2 dL_law_210 ?_
  have hPc := hP.sub (ws' := (XL hX aX cX tc cl tr g)) [0, 1, 2, 3, 4, 5, 6, 7, 8, 9, 10] rfl
  refine vp_callSi (W.runV (As := [.int (xs (x3 + 1).toNatClampNeg), .int (xs (x3 + 2).toNatClampNeg)]) (rest := []) ⟨hx, hb, hml, hown, hts⟩ (cX_below l dC dI hX aX cX tc cl tr g (xs (x3 + 1).toNatClampNeg) (xs (x3 + 2).toNatClampNeg) _ hw) (cwV 2 hts gL_law_X0_below rfl rfl rfl (by decide +kernel) ⟨Nat.le_of_ble_eq_true rfl, Nat.le_of_ble_eq_true rfl⟩) ⟨fun a U g mk q => by obtain ⟨q0, qP, qK⟩ := q; exact ⟨q0, qP, va_K.moved (u := U) (U := U.calling g mk a) (Vm.Alike.refl U.vm) qK⟩, va_recv hKX hPc (ci := 0) (q0 := 0) rfl rfl, fun U hU hW => ⟨rfl, by rw [hU]; exact hPc, va_K.moved hW.alike hKX⟩⟩ rfl rfl hl.1 rfl (lv_room (Nat.le_of_ble_eq_true rfl)) dL_law_211 ⟨Nat.le_of_ble_eq_true rfl, Nat.le_of_ble_eq_true rfl⟩) (fun r0 hw => ?_)
  try dsimp only at hw
  clear hPc
  refine lv_aload_n hx hb dL_law_214 rfl (lv_at hl 2 rfl) ?_
  refine lv_aload_n hx hb dL_law_215 rfl (lv_at hl 0 rfl) ?_
  refine lv_iload_n hx hb dL_law_216 rfl (lv_at hl 3 rfl) ?_
  refine lv_iconst (v := 1) hx hb dL_law_217 (by decide) ?_
  refine lv_iadd hx hb dL_law_218 ?_
  refine va_sld hx hb hSc hbl hbA hS hi1 dL_law_219 ?_
  refine lv_aload_n hx hb dL_law_220 rfl (lv_at hl 0 rfl) ?_
  refine lv_iload_n hx hb dL_law_221 rfl (lv_at hl 3 rfl) ?_
  refine lv_iconst (v := 2) hx hb dL_law_222 (by decide) ?_
  refine lv_iadd hx hb dL_law_223 ?_
  refine va_sld hx hb hSc hbl hbA hS hi2 dL_law_224 ?_
  have hPc := hP.sub (ws' := (ML hM aM cM tc' cl' tr' g')) [11, 12, 13, 14, 15, 16, 17] rfl
  refine vp_callSi (W.runV (As := [.int (xs (x3 + 1).toNatClampNeg), .int (xs (x3 + 2).toNatClampNeg)]) (rest := [.int r0]) ⟨hx, hb, hml, hown, hts⟩ (cM_below l dC dI hM aM cM tc' cl' tr' g' (xs (x3 + 1).toNatClampNeg) (xs (x3 + 2).toNatClampNeg) _ hw) (cwV 2 hts gL_law_X1_below rfl rfl rfl (by decide +kernel) ⟨Nat.le_of_ble_eq_true rfl, Nat.le_of_ble_eq_true rfl⟩) ⟨fun a U g mk q => by obtain ⟨q0, qP, qK⟩ := q; exact ⟨q0, qP, va_K.moved (u := U) (U := U.calling g mk a) (Vm.Alike.refl U.vm) qK⟩, va_recv hKM hPc (ci := 1) (q0 := 0) rfl rfl, fun U hU hW => ⟨rfl, by rw [hU]; exact hPc, va_K.moved hW.alike hKM⟩⟩ rfl rfl hl.1 rfl (lv_room (Nat.le_of_ble_eq_true rfl)) dL_law_225 ⟨Nat.le_of_ble_eq_true rfl, Nat.le_of_ble_eq_true rfl⟩) (fun r1 hw => ?_)
  try dsimp only at hw
  clear hPc
  refine lv_icmp_eq (tgt := 867) hx hb dL_law_228 (by decide) (fun hc => ?_) (fun hc => ?_)
  · exact hnext H locs ls tc cl tr g tc' cl' tr' g' hw.2 hP hD hS hl
  · exact absurd hw.1 hc
set_option maxHeartbeats 4000000 in
set_option maxRecDepth 100000 in
theorem law_weight {p : Program} {l : Launch} {e : Env} {s : State} {m : MethodId} {below : List Frame} {meth : Method} {c : Code} {dC : Nat → ClassId} {dI : Nat → Nat → Nat} {b L : Nat} {xs : Nat → Int32} {hX hM : Nat} {aX aM : Nat → Nat} {cX cM : Nat → ClassId} (Rel : Int32 → Int32 → Int64 → Sg → Int32 → Int32 → Int64 → Sg → Prop) (St_weight : Step_weight Rel) (C0 : lw_At p s m meth c b L xs) (hK : va_K (dC, dI) vwCl (XT cX ++ MT cM) s) (x3 : Int32) (hi1 : vp_in (x3 + 1) L) (hi2 : vp_in (x3 + 2) L) (hi3 : vp_in (x3 + 3) L) (hi4 : vp_in (x3 + 4) L) (hnext : ∀ (H : Heap) (locs : List Loc) (ls : Array Slot) (tc cl : Int32) (tr : Int64) (g : Sg) (tc' cl' : Int32) (tr' : Int64) (g' : Sg), Rel tc cl tr g tc' cl' tr' g' → va_P (dC, dI) vwCl ((XL hX aX cX tc cl tr g) ++ (ML hM aM cM tc' cl' tr' g')) H → va_D (fun q : Nat => s.heap.size ≤ q) ((XL hX aX cX tc cl tr g) ++ (ML hM aM cM tc' cl' tr' g')) → va_S (fun q : Nat => s.heap.size ≤ q) s.heap H locs → lv_has ls 4 [(0, .ref b), (1, .ref hX), (2, .ref hM), (3, .int x3)] → W p l e room_1 s m #[Value.ref b] below meth c H locs 18 1461 (lw_Z below #[Value.ref b] s) (F0 m 867 ls [])) : ∀ (H : Heap) (locs : List Loc) (ls : Array Slot) (tc cl : Int32) (tr : Int64) (g : Sg) (tc' cl' : Int32) (tr' : Int64) (g' : Sg), Rel tc cl tr g tc' cl' tr' g' → va_P (dC, dI) vwCl ((XL hX aX cX tc cl tr g) ++ (ML hM aM cM tc' cl' tr' g')) H → va_D (fun q : Nat => s.heap.size ≤ q) ((XL hX aX cX tc cl tr g) ++ (ML hM aM cM tc' cl' tr' g')) → va_S (fun q : Nat => s.heap.size ≤ q) s.heap H locs → lv_has ls 4 [(0, .ref b), (1, .ref hX), (2, .ref hM), (3, .int x3)] → W p l e room_1 s m #[Value.ref b] below meth c H locs 18 1461 (lw_Z below #[Value.ref b] s) (F0 m 233 ls []) := by
  obtain ⟨hx, hb, hr, hml, hown, hts, hSc, hbl, hlocks, hgv⟩ := C0
  have hts := fun w h => hts w (wsL_law_in w h)
  have hown : s.vm.findClass RL = some m.cls := hown
  have hb : c.code = cL_law := hb
  have hA : ∀ q : Nat, s.heap.size ≤ q → (fun q : Nat => s.heap.size ≤ q) q := fun _ h => h
  have hbA : ¬ (fun q : Nat => s.heap.size ≤ q) b := Nat.not_le.mpr hbl
  have hKX := hK.sub (tys' := XT cX) [0, 1, 2, 3, 4, 5, 6, 7, 8, 9] rfl
  have hKM := hK.sub (tys' := MT cM) [10, 11, 12, 13, 14, 15] rfl
  intro H locs ls tc cl tr g tc' cl' tr' g' hRel hP hD hS hl
  have hw := St_weight tc cl tr g tc' cl' tr' g' (xs (x3 + 1).toNatClampNeg) (xs (x3 + 2).toNatClampNeg) hRel
  refine lv_aload_n hx hb dL_law_233 rfl (lv_at hl 1 rfl) ?_
  refine lv_aload_n hx hb dL_law_234 rfl (lv_at hl 0 rfl) ?_
  refine lv_iload_n hx hb dL_law_235 rfl (lv_at hl 3 rfl) ?_
  refine lv_iconst (v := 1) hx hb dL_law_236 (by decide) ?_
  refine lv_iadd hx hb dL_law_237 ?_
  refine va_sld hx hb hSc hbl hbA hS hi1 dL_law_238 ?_
  refine lv_aload_n hx hb dL_law_239 rfl (lv_at hl 0 rfl) ?_
  refine lv_iload_n hx hb dL_law_240 rfl (lv_at hl 3 rfl) ?_
  refine lv_iconst (v := 2) hx hb dL_law_241 (by decide) ?_
  refine lv_iadd hx hb dL_law_242 ?_
  refine va_sld hx hb hSc hbl hbA hS hi2 dL_law_243 ?_
  have hPc := hP.sub (ws' := (XL hX aX cX tc cl tr g)) [0, 1, 2, 3, 4, 5, 6, 7, 8, 9, 10] rfl
  have hDc := hD.sub (ws' := (XL hX aX cX tc cl tr g)) [0, 1, 2, 3, 4, 5, 6, 7, 8, 9, 10] (by decide) rfl
  have hFc := va_free (wc := (XL hX aX cX tc cl tr g)) hD hS hA [0, 1, 2, 3, 4, 5, 6, 7, 8, 9, 10] rfl
  refine va_calli (va_runV (As := [.int (xs (x3 + 1).toNatClampNeg), .int (xs (x3 + 2).toNatClampNeg)]) (rest := []) ⟨hx, hb, hml, hown, hts⟩ (cX_weight l dC dI hX aX cX H.size tc cl tr g (xs (x3 + 1).toNatClampNeg) (xs (x3 + 2).toNatClampNeg) _ hw) (cwV 2 hts gL_law_X0_weight rfl rfl rfl (by decide +kernel) ⟨Nat.le_of_ble_eq_true rfl, Nat.le_of_ble_eq_true rfl⟩) ⟨fun a U g mk q => by obtain ⟨q0, q1, qP, qK, qD⟩ := q; exact ⟨q0, q1, qP, va_K.moved (u := U) (U := U.calling g mk a) (Vm.Alike.refl U.vm) qK, qD⟩, va_recv hKX hPc (ci := 0) (q0 := 0) rfl rfl, fun U hU hW => ⟨rfl, by rw [hU], by rw [hU]; exact hPc, va_K.moved hW.alike hKX, hDc.weaken (fun _ _ _ _ => trivial)⟩⟩ rfl rfl hl.1 rfl (lv_room (Nat.le_of_ble_eq_true rfl)) dL_law_244 ⟨Nat.le_of_ble_eq_true rfl, Nat.le_of_ble_eq_true rfl⟩) hS (fun q _ h => hFc q h) hFc (fun r0 g_0 t H1 locs ht hvm hw hB hz1 hk1 hS => ?_)
  obtain ⟨hP1, hK1, hD1⟩ := hB
  rw [ht] at hP1
  obtain ⟨hP, hD⟩ := va_join (wr := (ML hM aM cM tc' cl' tr' g')) (w1 := (XL hX aX cX tc cl tr g_0)) hP hD [0, 1, 2, 3, 4, 5, 6, 7, 8, 9, 10] [11, 12, 13, 14, 15, 16, 17] rfl rfl (by decide) (by decide) hk1 hFc hP1 hD1
  have hP := hP.sub (ws' := ((XL hX aX cX tc cl tr g_0) ++ (ML hM aM cM tc' cl' tr' g'))) [7, 8, 9, 10, 11, 12, 13, 14, 15, 16, 17, 0, 1, 2, 3, 4, 5, 6] rfl
  have hD := hD.sub (ws' := ((XL hX aX cX tc cl tr g_0) ++ (ML hM aM cM tc' cl' tr' g'))) [7, 8, 9, 10, 11, 12, 13, 14, 15, 16, 17, 0, 1, 2, 3, 4, 5, 6] (by decide) rfl
  clear hP1 hK1 hD1 hFc hk1 hz1 hvm ht hPc hDc
  generalize H1 = H at hP hS ⊢
  try dsimp only at hw
  refine lv_aload_n hx hb dL_law_247 rfl (lv_at hl 2 rfl) ?_
  refine lv_aload_n hx hb dL_law_248 rfl (lv_at hl 0 rfl) ?_
  refine lv_iload_n hx hb dL_law_249 rfl (lv_at hl 3 rfl) ?_
  refine lv_iconst (v := 1) hx hb dL_law_250 (by decide) ?_
  refine lv_iadd hx hb dL_law_251 ?_
  refine va_sld hx hb hSc hbl hbA hS hi1 dL_law_252 ?_
  refine lv_aload_n hx hb dL_law_253 rfl (lv_at hl 0 rfl) ?_
  refine lv_iload_n hx hb dL_law_254 rfl (lv_at hl 3 rfl) ?_
  refine lv_iconst (v := 2) hx hb dL_law_255 (by decide) ?_
  refine lv_iadd hx hb dL_law_256 ?_
  refine va_sld hx hb hSc hbl hbA hS hi2 dL_law_257 ?_
  have hPc := hP.sub (ws' := (ML hM aM cM tc' cl' tr' g')) [11, 12, 13, 14, 15, 16, 17] rfl
  have hDc := hD.sub (ws' := (ML hM aM cM tc' cl' tr' g')) [11, 12, 13, 14, 15, 16, 17] (by decide) rfl
  have hFc := va_free (wc := (ML hM aM cM tc' cl' tr' g')) hD hS hA [11, 12, 13, 14, 15, 16, 17] rfl
  refine va_calli (va_runV (As := [.int (xs (x3 + 1).toNatClampNeg), .int (xs (x3 + 2).toNatClampNeg)]) (rest := [.int r0]) ⟨hx, hb, hml, hown, hts⟩ (cM_weight l dC dI hM aM cM H.size tc' cl' tr' g' (xs (x3 + 1).toNatClampNeg) (xs (x3 + 2).toNatClampNeg) _ hw) (cwV 2 hts gL_law_X1_weight rfl rfl rfl (by decide +kernel) ⟨Nat.le_of_ble_eq_true rfl, Nat.le_of_ble_eq_true rfl⟩) ⟨fun a U g mk q => by obtain ⟨q0, q1, qP, qK, qD⟩ := q; exact ⟨q0, q1, qP, va_K.moved (u := U) (U := U.calling g mk a) (Vm.Alike.refl U.vm) qK, qD⟩, va_recv hKM hPc (ci := 1) (q0 := 0) rfl rfl, fun U hU hW => ⟨rfl, by rw [hU], by rw [hU]; exact hPc, va_K.moved hW.alike hKM, hDc.weaken (fun _ _ _ _ => trivial)⟩⟩ rfl rfl hl.1 rfl (lv_room (Nat.le_of_ble_eq_true rfl)) dL_law_258 ⟨Nat.le_of_ble_eq_true rfl, Nat.le_of_ble_eq_true rfl⟩) hS (fun q _ h => hFc q h) hFc (fun r1 g_1 t H1 locs ht hvm hw hB hz1 hk1 hS => ?_)
  obtain ⟨hP1, hK1, hD1⟩ := hB
  rw [ht] at hP1
  obtain ⟨hP, hD⟩ := va_join (wr := (XL hX aX cX tc cl tr g_0)) (w1 := (ML hM aM cM tc' cl' tr' g_1)) hP hD [11, 12, 13, 14, 15, 16, 17] [0, 1, 2, 3, 4, 5, 6, 7, 8, 9, 10] rfl rfl (by decide) (by decide) hk1 hFc hP1 hD1
  clear hP1 hK1 hD1 hFc hk1 hz1 hvm ht hPc hDc
  generalize H1 = H at hP hS ⊢
  try dsimp only at hw
  refine lv_icmp_eq (tgt := 867) hx hb dL_law_261 (by decide) (fun hc => ?_) (fun hc => ?_)
  · exact hnext H locs ls tc cl tr g_0 tc' cl' tr' g_1 hw.2 hP hD hS hl
  · exact absurd hw.1 hc
set_option maxHeartbeats 4000000 in
set_option maxRecDepth 100000 in
theorem law_say {p : Program} {l : Launch} {e : Env} {s : State} {m : MethodId} {below : List Frame} {meth : Method} {c : Code} {dC : Nat → ClassId} {dI : Nat → Nat → Nat} {b L : Nat} {xs : Nat → Int32} {hX hM : Nat} {aX aM : Nat → Nat} {cX cM : Nat → ClassId} (Rel : Int32 → Int32 → Int64 → Sg → Int32 → Int32 → Int64 → Sg → Prop) (St_say : Step_say Rel) (C0 : lw_At p s m meth c b L xs) (hK : va_K (dC, dI) vwCl (XT cX ++ MT cM) s) (x3 : Int32) (hi1 : vp_in (x3 + 1) L) (hi2 : vp_in (x3 + 2) L) (hi3 : vp_in (x3 + 3) L) (hi4 : vp_in (x3 + 4) L) (hnext : ∀ (H : Heap) (locs : List Loc) (ls : Array Slot) (tc cl : Int32) (tr : Int64) (g : Sg) (tc' cl' : Int32) (tr' : Int64) (g' : Sg), Rel tc cl tr g tc' cl' tr' g' → va_P (dC, dI) vwCl ((XL hX aX cX tc cl tr g) ++ (ML hM aM cM tc' cl' tr' g')) H → va_D (fun q : Nat => s.heap.size ≤ q) ((XL hX aX cX tc cl tr g) ++ (ML hM aM cM tc' cl' tr' g')) → va_S (fun q : Nat => s.heap.size ≤ q) s.heap H locs → lv_has ls 4 [(0, .ref b), (1, .ref hX), (2, .ref hM), (3, .int x3)] → W p l e room_1 s m #[Value.ref b] below meth c H locs 18 1461 (lw_Z below #[Value.ref b] s) (F0 m 867 ls [])) : ∀ (H : Heap) (locs : List Loc) (ls : Array Slot) (tc cl : Int32) (tr : Int64) (g : Sg) (tc' cl' : Int32) (tr' : Int64) (g' : Sg), Rel tc cl tr g tc' cl' tr' g' → va_P (dC, dI) vwCl ((XL hX aX cX tc cl tr g) ++ (ML hM aM cM tc' cl' tr' g')) H → va_D (fun q : Nat => s.heap.size ≤ q) ((XL hX aX cX tc cl tr g) ++ (ML hM aM cM tc' cl' tr' g')) → va_S (fun q : Nat => s.heap.size ≤ q) s.heap H locs → lv_has ls 4 [(0, .ref b), (1, .ref hX), (2, .ref hM), (3, .int x3)] → W p l e room_1 s m #[Value.ref b] below meth c H locs 18 1461 (lw_Z below #[Value.ref b] s) (F0 m 266 ls []) := by
  obtain ⟨hx, hb, hr, hml, hown, hts, hSc, hbl, hlocks, hgv⟩ := C0
  have hts := fun w h => hts w (wsL_law_in w h)
  have hown : s.vm.findClass RL = some m.cls := hown
  have hb : c.code = cL_law := hb
  have hA : ∀ q : Nat, s.heap.size ≤ q → (fun q : Nat => s.heap.size ≤ q) q := fun _ h => h
  have hbA : ¬ (fun q : Nat => s.heap.size ≤ q) b := Nat.not_le.mpr hbl
  have hKX := hK.sub (tys' := XT cX) [0, 1, 2, 3, 4, 5, 6, 7, 8, 9] rfl
  have hKM := hK.sub (tys' := MT cM) [10, 11, 12, 13, 14, 15] rfl
  intro H locs ls tc cl tr g tc' cl' tr' g' hRel hP hD hS hl
  have hw := St_say tc cl tr g tc' cl' tr' g' (xs (x3 + 1).toNatClampNeg) hRel
  refine lv_aload_n hx hb dL_law_266 rfl (lv_at hl 1 rfl) ?_
  refine lv_aload_n hx hb dL_law_267 rfl (lv_at hl 0 rfl) ?_
  refine lv_iload_n hx hb dL_law_268 rfl (lv_at hl 3 rfl) ?_
  refine lv_iconst (v := 1) hx hb dL_law_269 (by decide) ?_
  refine lv_iadd hx hb dL_law_270 ?_
  refine va_sld hx hb hSc hbl hbA hS hi1 dL_law_271 ?_
  have hPc := hP.sub (ws' := (XL hX aX cX tc cl tr g)) [0, 1, 2, 3, 4, 5, 6, 7, 8, 9, 10] rfl
  have hDc := hD.sub (ws' := (XL hX aX cX tc cl tr g)) [0, 1, 2, 3, 4, 5, 6, 7, 8, 9, 10] (by decide) rfl
  have hFc := va_free (wc := (XL hX aX cX tc cl tr g)) hD hS hA [0, 1, 2, 3, 4, 5, 6, 7, 8, 9, 10] rfl
  refine va_calli (va_runV (As := [.int (xs (x3 + 1).toNatClampNeg)]) (rest := []) ⟨hx, hb, hml, hown, hts⟩ (cX_say l dC dI hX aX cX H.size tc cl tr g (xs (x3 + 1).toNatClampNeg) _ hw) (cwV 1 hts gL_law_X0_say rfl rfl rfl (by decide +kernel) ⟨Nat.le_of_ble_eq_true rfl, Nat.le_of_ble_eq_true rfl⟩) ⟨fun a U g mk q => by obtain ⟨q0, q1, qP, qK, qD⟩ := q; exact ⟨q0, q1, qP, va_K.moved (u := U) (U := U.calling g mk a) (Vm.Alike.refl U.vm) qK, qD⟩, va_recv hKX hPc (ci := 0) (q0 := 0) rfl rfl, fun U hU hW => ⟨rfl, by rw [hU], by rw [hU]; exact hPc, va_K.moved hW.alike hKX, hDc.weaken (fun _ _ _ _ => trivial)⟩⟩ rfl rfl hl.1 rfl (lv_room (Nat.le_of_ble_eq_true rfl)) dL_law_272 ⟨Nat.le_of_ble_eq_true rfl, Nat.le_of_ble_eq_true rfl⟩) hS (fun q _ h => hFc q h) hFc (fun r0 u t H1 locs ht hvm hw hB hz1 hk1 hS => ?_)
  obtain ⟨tc_0, cl_0, tr_0, g_0⟩ := u
  obtain ⟨hP1, hK1, hD1⟩ := hB
  rw [ht] at hP1
  obtain ⟨hP, hD⟩ := va_join (wr := (ML hM aM cM tc' cl' tr' g')) (w1 := (XL hX aX cX tc_0 cl_0 tr_0 g_0)) hP hD [0, 1, 2, 3, 4, 5, 6, 7, 8, 9, 10] [11, 12, 13, 14, 15, 16, 17] rfl rfl (by decide) (by decide) hk1 hFc hP1 hD1
  have hP := hP.sub (ws' := ((XL hX aX cX tc_0 cl_0 tr_0 g_0) ++ (ML hM aM cM tc' cl' tr' g'))) [7, 8, 9, 10, 11, 12, 13, 14, 15, 16, 17, 0, 1, 2, 3, 4, 5, 6] rfl
  have hD := hD.sub (ws' := ((XL hX aX cX tc_0 cl_0 tr_0 g_0) ++ (ML hM aM cM tc' cl' tr' g'))) [7, 8, 9, 10, 11, 12, 13, 14, 15, 16, 17, 0, 1, 2, 3, 4, 5, 6] (by decide) rfl
  clear hP1 hK1 hD1 hFc hk1 hz1 hvm ht hPc hDc
  generalize H1 = H at hP hS ⊢
  try dsimp only at hw
  refine lv_aload_n hx hb dL_law_275 rfl (lv_at hl 2 rfl) ?_
  refine lv_aload_n hx hb dL_law_276 rfl (lv_at hl 0 rfl) ?_
  refine lv_iload_n hx hb dL_law_277 rfl (lv_at hl 3 rfl) ?_
  refine lv_iconst (v := 1) hx hb dL_law_278 (by decide) ?_
  refine lv_iadd hx hb dL_law_279 ?_
  refine va_sld hx hb hSc hbl hbA hS hi1 dL_law_280 ?_
  have hPc := hP.sub (ws' := (ML hM aM cM tc' cl' tr' g')) [11, 12, 13, 14, 15, 16, 17] rfl
  have hDc := hD.sub (ws' := (ML hM aM cM tc' cl' tr' g')) [11, 12, 13, 14, 15, 16, 17] (by decide) rfl
  have hFc := va_free (wc := (ML hM aM cM tc' cl' tr' g')) hD hS hA [11, 12, 13, 14, 15, 16, 17] rfl
  refine va_calli (va_runV (As := [.int (xs (x3 + 1).toNatClampNeg)]) (rest := [.int r0]) ⟨hx, hb, hml, hown, hts⟩ (cM_say l dC dI hM aM cM H.size tc' cl' tr' g' (xs (x3 + 1).toNatClampNeg) _ hw) (cwV 1 hts gL_law_X1_say rfl rfl rfl (by decide +kernel) ⟨Nat.le_of_ble_eq_true rfl, Nat.le_of_ble_eq_true rfl⟩) ⟨fun a U g mk q => by obtain ⟨q0, q1, qP, qK, qD⟩ := q; exact ⟨q0, q1, qP, va_K.moved (u := U) (U := U.calling g mk a) (Vm.Alike.refl U.vm) qK, qD⟩, va_recv hKM hPc (ci := 1) (q0 := 0) rfl rfl, fun U hU hW => ⟨rfl, by rw [hU], by rw [hU]; exact hPc, va_K.moved hW.alike hKM, hDc.weaken (fun _ _ _ _ => trivial)⟩⟩ rfl rfl hl.1 rfl (lv_room (Nat.le_of_ble_eq_true rfl)) dL_law_281 ⟨Nat.le_of_ble_eq_true rfl, Nat.le_of_ble_eq_true rfl⟩) hS (fun q _ h => hFc q h) hFc (fun r1 u t H1 locs ht hvm hw hB hz1 hk1 hS => ?_)
  obtain ⟨tc_1, cl_1, tr_1, g_1⟩ := u
  obtain ⟨hP1, hK1, hD1⟩ := hB
  rw [ht] at hP1
  obtain ⟨hP, hD⟩ := va_join (wr := (XL hX aX cX tc_0 cl_0 tr_0 g_0)) (w1 := (ML hM aM cM tc_1 cl_1 tr_1 g_1)) hP hD [11, 12, 13, 14, 15, 16, 17] [0, 1, 2, 3, 4, 5, 6, 7, 8, 9, 10] rfl rfl (by decide) (by decide) hk1 hFc hP1 hD1
  clear hP1 hK1 hD1 hFc hk1 hz1 hvm ht hPc hDc
  generalize H1 = H at hP hS ⊢
  try dsimp only at hw
  refine lv_icmp_eq (tgt := 867) hx hb dL_law_284 (by decide) (fun hc => ?_) (fun hc => ?_)
  · exact hnext H locs ls tc_0 cl_0 tr_0 g_0 tc_1 cl_1 tr_1 g_1 hw.2 hP hD hS hl
  · exact absurd hw.1 hc
set_option maxHeartbeats 4000000 in
set_option maxRecDepth 100000 in
theorem law_hush {p : Program} {l : Launch} {e : Env} {s : State} {m : MethodId} {below : List Frame} {meth : Method} {c : Code} {dC : Nat → ClassId} {dI : Nat → Nat → Nat} {b L : Nat} {xs : Nat → Int32} {hX hM : Nat} {aX aM : Nat → Nat} {cX cM : Nat → ClassId} (Rel : Int32 → Int32 → Int64 → Sg → Int32 → Int32 → Int64 → Sg → Prop) (St_hush : Step_hush Rel) (C0 : lw_At p s m meth c b L xs) (hK : va_K (dC, dI) vwCl (XT cX ++ MT cM) s) (x3 : Int32) (hi1 : vp_in (x3 + 1) L) (hi2 : vp_in (x3 + 2) L) (hi3 : vp_in (x3 + 3) L) (hi4 : vp_in (x3 + 4) L) (hnext : ∀ (H : Heap) (locs : List Loc) (ls : Array Slot) (tc cl : Int32) (tr : Int64) (g : Sg) (tc' cl' : Int32) (tr' : Int64) (g' : Sg), Rel tc cl tr g tc' cl' tr' g' → va_P (dC, dI) vwCl ((XL hX aX cX tc cl tr g) ++ (ML hM aM cM tc' cl' tr' g')) H → va_D (fun q : Nat => s.heap.size ≤ q) ((XL hX aX cX tc cl tr g) ++ (ML hM aM cM tc' cl' tr' g')) → va_S (fun q : Nat => s.heap.size ≤ q) s.heap H locs → lv_has ls 4 [(0, .ref b), (1, .ref hX), (2, .ref hM), (3, .int x3)] → W p l e room_1 s m #[Value.ref b] below meth c H locs 18 1461 (lw_Z below #[Value.ref b] s) (F0 m 867 ls [])) : ∀ (H : Heap) (locs : List Loc) (ls : Array Slot) (tc cl : Int32) (tr : Int64) (g : Sg) (tc' cl' : Int32) (tr' : Int64) (g' : Sg), Rel tc cl tr g tc' cl' tr' g' → va_P (dC, dI) vwCl ((XL hX aX cX tc cl tr g) ++ (ML hM aM cM tc' cl' tr' g')) H → va_D (fun q : Nat => s.heap.size ≤ q) ((XL hX aX cX tc cl tr g) ++ (ML hM aM cM tc' cl' tr' g')) → va_S (fun q : Nat => s.heap.size ≤ q) s.heap H locs → lv_has ls 4 [(0, .ref b), (1, .ref hX), (2, .ref hM), (3, .int x3)] → W p l e room_1 s m #[Value.ref b] below meth c H locs 18 1461 (lw_Z below #[Value.ref b] s) (F0 m 289 ls []) := by
  obtain ⟨hx, hb, hr, hml, hown, hts, hSc, hbl, hlocks, hgv⟩ := C0
  have hts := fun w h => hts w (wsL_law_in w h)
  have hown : s.vm.findClass RL = some m.cls := hown
  have hb : c.code = cL_law := hb
  have hA : ∀ q : Nat, s.heap.size ≤ q → (fun q : Nat => s.heap.size ≤ q) q := fun _ h => h
  have hbA : ¬ (fun q : Nat => s.heap.size ≤ q) b := Nat.not_le.mpr hbl
  have hKX := hK.sub (tys' := XT cX) [0, 1, 2, 3, 4, 5, 6, 7, 8, 9] rfl
  have hKM := hK.sub (tys' := MT cM) [10, 11, 12, 13, 14, 15] rfl
  intro H locs ls tc cl tr g tc' cl' tr' g' hRel hP hD hS hl
  have hw := St_hush tc cl tr g tc' cl' tr' g' hRel
  refine lv_aload_n hx hb dL_law_289 rfl (lv_at hl 1 rfl) ?_
  have hPc := hP.sub (ws' := (XL hX aX cX tc cl tr g)) [0, 1, 2, 3, 4, 5, 6, 7, 8, 9, 10] rfl
  have hDc := hD.sub (ws' := (XL hX aX cX tc cl tr g)) [0, 1, 2, 3, 4, 5, 6, 7, 8, 9, 10] (by decide) rfl
  have hFc := va_free (wc := (XL hX aX cX tc cl tr g)) hD hS hA [0, 1, 2, 3, 4, 5, 6, 7, 8, 9, 10] rfl
  refine va_calli (va_runV (As := []) (rest := []) ⟨hx, hb, hml, hown, hts⟩ (cX_hush l dC dI hX aX cX H.size tc cl tr g _ hw) (cwV 0 hts gL_law_X0_hush rfl rfl rfl (by decide +kernel) ⟨Nat.le_of_ble_eq_true rfl, Nat.le_of_ble_eq_true rfl⟩) ⟨fun a U g mk q => by obtain ⟨q0, q1, qP, qK, qD⟩ := q; exact ⟨q0, q1, qP, va_K.moved (u := U) (U := U.calling g mk a) (Vm.Alike.refl U.vm) qK, qD⟩, va_recv hKX hPc (ci := 0) (q0 := 0) rfl rfl, fun U hU hW => ⟨rfl, by rw [hU], by rw [hU]; exact hPc, va_K.moved hW.alike hKX, hDc.weaken (fun _ _ _ _ => trivial)⟩⟩ rfl rfl hl.1 rfl (lv_room (Nat.le_of_ble_eq_true rfl)) dL_law_290 ⟨Nat.le_of_ble_eq_true rfl, Nat.le_of_ble_eq_true rfl⟩) hS (fun q _ h => hFc q h) hFc (fun r0 u t H1 locs ht hvm hw hB hz1 hk1 hS => ?_)
  obtain ⟨tc_0, cl_0, tr_0, g_0⟩ := u
  obtain ⟨hP1, hK1, hD1⟩ := hB
  rw [ht] at hP1
  obtain ⟨hP, hD⟩ := va_join (wr := (ML hM aM cM tc' cl' tr' g')) (w1 := (XL hX aX cX tc_0 cl_0 tr_0 g_0)) hP hD [0, 1, 2, 3, 4, 5, 6, 7, 8, 9, 10] [11, 12, 13, 14, 15, 16, 17] rfl rfl (by decide) (by decide) hk1 hFc hP1 hD1
  have hP := hP.sub (ws' := ((XL hX aX cX tc_0 cl_0 tr_0 g_0) ++ (ML hM aM cM tc' cl' tr' g'))) [7, 8, 9, 10, 11, 12, 13, 14, 15, 16, 17, 0, 1, 2, 3, 4, 5, 6] rfl
  have hD := hD.sub (ws' := ((XL hX aX cX tc_0 cl_0 tr_0 g_0) ++ (ML hM aM cM tc' cl' tr' g'))) [7, 8, 9, 10, 11, 12, 13, 14, 15, 16, 17, 0, 1, 2, 3, 4, 5, 6] (by decide) rfl
  clear hP1 hK1 hD1 hFc hk1 hz1 hvm ht hPc hDc
  generalize H1 = H at hP hS ⊢
  try dsimp only at hw
  refine lv_aload_n hx hb dL_law_293 rfl (lv_at hl 2 rfl) ?_
  have hPc := hP.sub (ws' := (ML hM aM cM tc' cl' tr' g')) [11, 12, 13, 14, 15, 16, 17] rfl
  have hDc := hD.sub (ws' := (ML hM aM cM tc' cl' tr' g')) [11, 12, 13, 14, 15, 16, 17] (by decide) rfl
  have hFc := va_free (wc := (ML hM aM cM tc' cl' tr' g')) hD hS hA [11, 12, 13, 14, 15, 16, 17] rfl
  refine va_calli (va_runV (As := []) (rest := [.int r0]) ⟨hx, hb, hml, hown, hts⟩ (cM_hush l dC dI hM aM cM H.size tc' cl' tr' g' _ hw) (cwV 0 hts gL_law_X1_hush rfl rfl rfl (by decide +kernel) ⟨Nat.le_of_ble_eq_true rfl, Nat.le_of_ble_eq_true rfl⟩) ⟨fun a U g mk q => by obtain ⟨q0, q1, qP, qK, qD⟩ := q; exact ⟨q0, q1, qP, va_K.moved (u := U) (U := U.calling g mk a) (Vm.Alike.refl U.vm) qK, qD⟩, va_recv hKM hPc (ci := 1) (q0 := 0) rfl rfl, fun U hU hW => ⟨rfl, by rw [hU], by rw [hU]; exact hPc, va_K.moved hW.alike hKM, hDc.weaken (fun _ _ _ _ => trivial)⟩⟩ rfl rfl hl.1 rfl (lv_room (Nat.le_of_ble_eq_true rfl)) dL_law_294 ⟨Nat.le_of_ble_eq_true rfl, Nat.le_of_ble_eq_true rfl⟩) hS (fun q _ h => hFc q h) hFc (fun r1 u t H1 locs ht hvm hw hB hz1 hk1 hS => ?_)
  obtain ⟨tc_1, cl_1, tr_1, g_1⟩ := u
  obtain ⟨hP1, hK1, hD1⟩ := hB
  rw [ht] at hP1
  obtain ⟨hP, hD⟩ := va_join (wr := (XL hX aX cX tc_0 cl_0 tr_0 g_0)) (w1 := (ML hM aM cM tc_1 cl_1 tr_1 g_1)) hP hD [11, 12, 13, 14, 15, 16, 17] [0, 1, 2, 3, 4, 5, 6, 7, 8, 9, 10] rfl rfl (by decide) (by decide) hk1 hFc hP1 hD1
  clear hP1 hK1 hD1 hFc hk1 hz1 hvm ht hPc hDc
  generalize H1 = H at hP hS ⊢
  try dsimp only at hw
  refine lv_icmp_eq (tgt := 867) hx hb dL_law_297 (by decide) (fun hc => ?_) (fun hc => ?_)
  · exact hnext H locs ls tc_0 cl_0 tr_0 g_0 tc_1 cl_1 tr_1 g_1 hw.2 hP hD hS hl
  · exact absurd hw.1 hc
set_option maxHeartbeats 4000000 in
set_option maxRecDepth 100000 in
theorem law_heap {p : Program} {l : Launch} {e : Env} {s : State} {m : MethodId} {below : List Frame} {meth : Method} {c : Code} {dC : Nat → ClassId} {dI : Nat → Nat → Nat} {b L : Nat} {xs : Nat → Int32} {hX hM : Nat} {aX aM : Nat → Nat} {cX cM : Nat → ClassId} (Rel : Int32 → Int32 → Int64 → Sg → Int32 → Int32 → Int64 → Sg → Prop) (St_heap : Step_heap Rel) (C0 : lw_At p s m meth c b L xs) (hK : va_K (dC, dI) vwCl (XT cX ++ MT cM) s) (x3 : Int32) (hi1 : vp_in (x3 + 1) L) (hi2 : vp_in (x3 + 2) L) (hi3 : vp_in (x3 + 3) L) (hi4 : vp_in (x3 + 4) L) (hnext : ∀ (H : Heap) (locs : List Loc) (ls : Array Slot) (tc cl : Int32) (tr : Int64) (g : Sg) (tc' cl' : Int32) (tr' : Int64) (g' : Sg), Rel tc cl tr g tc' cl' tr' g' → va_P (dC, dI) vwCl ((XL hX aX cX tc cl tr g) ++ (ML hM aM cM tc' cl' tr' g')) H → va_D (fun q : Nat => s.heap.size ≤ q) ((XL hX aX cX tc cl tr g) ++ (ML hM aM cM tc' cl' tr' g')) → va_S (fun q : Nat => s.heap.size ≤ q) s.heap H locs → lv_has ls 4 [(0, .ref b), (1, .ref hX), (2, .ref hM), (3, .int x3)] → W p l e room_1 s m #[Value.ref b] below meth c H locs 18 1461 (lw_Z below #[Value.ref b] s) (F0 m 867 ls [])) : ∀ (H : Heap) (locs : List Loc) (ls : Array Slot) (tc cl : Int32) (tr : Int64) (g : Sg) (tc' cl' : Int32) (tr' : Int64) (g' : Sg), Rel tc cl tr g tc' cl' tr' g' → va_P (dC, dI) vwCl ((XL hX aX cX tc cl tr g) ++ (ML hM aM cM tc' cl' tr' g')) H → va_D (fun q : Nat => s.heap.size ≤ q) ((XL hX aX cX tc cl tr g) ++ (ML hM aM cM tc' cl' tr' g')) → va_S (fun q : Nat => s.heap.size ≤ q) s.heap H locs → lv_has ls 4 [(0, .ref b), (1, .ref hX), (2, .ref hM), (3, .int x3)] → W p l e room_1 s m #[Value.ref b] below meth c H locs 18 1461 (lw_Z below #[Value.ref b] s) (F0 m 302 ls []) := by
  obtain ⟨hx, hb, hr, hml, hown, hts, hSc, hbl, hlocks, hgv⟩ := C0
  have hts := fun w h => hts w (wsL_law_in w h)
  have hown : s.vm.findClass RL = some m.cls := hown
  have hb : c.code = cL_law := hb
  have hA : ∀ q : Nat, s.heap.size ≤ q → (fun q : Nat => s.heap.size ≤ q) q := fun _ h => h
  have hbA : ¬ (fun q : Nat => s.heap.size ≤ q) b := Nat.not_le.mpr hbl
  have hKX := hK.sub (tys' := XT cX) [0, 1, 2, 3, 4, 5, 6, 7, 8, 9] rfl
  have hKM := hK.sub (tys' := MT cM) [10, 11, 12, 13, 14, 15] rfl
  intro H locs ls tc cl tr g tc' cl' tr' g' hRel hP hD hS hl
  have hw := St_heap tc cl tr g tc' cl' tr' g' (xs (x3 + 1).toNatClampNeg) hRel
  refine lv_aload_n hx hb dL_law_302 rfl (lv_at hl 1 rfl) ?_
  refine lv_aload_n hx hb dL_law_303 rfl (lv_at hl 0 rfl) ?_
  refine lv_iload_n hx hb dL_law_304 rfl (lv_at hl 3 rfl) ?_
  refine lv_iconst (v := 1) hx hb dL_law_305 (by decide) ?_
  refine lv_iadd hx hb dL_law_306 ?_
  refine va_sld hx hb hSc hbl hbA hS hi1 dL_law_307 ?_
  have hPc := hP.sub (ws' := (XL hX aX cX tc cl tr g)) [0, 1, 2, 3, 4, 5, 6, 7, 8, 9, 10] rfl
  refine vp_callSi (W.runV (As := [.int (xs (x3 + 1).toNatClampNeg)]) (rest := []) ⟨hx, hb, hml, hown, hts⟩ (cX_heap l dC dI hX aX cX tc cl tr g (xs (x3 + 1).toNatClampNeg) _ hw) (cwV 1 hts gL_law_X0_heap rfl rfl rfl (by decide +kernel) ⟨Nat.le_of_ble_eq_true rfl, Nat.le_of_ble_eq_true rfl⟩) ⟨fun a U g mk q => by obtain ⟨q0, qP, qK⟩ := q; exact ⟨q0, qP, va_K.moved (u := U) (U := U.calling g mk a) (Vm.Alike.refl U.vm) qK⟩, va_recv hKX hPc (ci := 0) (q0 := 0) rfl rfl, fun U hU hW => ⟨rfl, by rw [hU]; exact hPc, va_K.moved hW.alike hKX⟩⟩ rfl rfl hl.1 rfl (lv_room (Nat.le_of_ble_eq_true rfl)) dL_law_308 ⟨Nat.le_of_ble_eq_true rfl, Nat.le_of_ble_eq_true rfl⟩) (fun r0 hw => ?_)
  try dsimp only at hw
  clear hPc
  refine lv_aload_n hx hb dL_law_311 rfl (lv_at hl 2 rfl) ?_
  refine lv_aload_n hx hb dL_law_312 rfl (lv_at hl 0 rfl) ?_
  refine lv_iload_n hx hb dL_law_313 rfl (lv_at hl 3 rfl) ?_
  refine lv_iconst (v := 1) hx hb dL_law_314 (by decide) ?_
  refine lv_iadd hx hb dL_law_315 ?_
  refine va_sld hx hb hSc hbl hbA hS hi1 dL_law_316 ?_
  have hPc := hP.sub (ws' := (ML hM aM cM tc' cl' tr' g')) [11, 12, 13, 14, 15, 16, 17] rfl
  refine vp_callSi (W.runV (As := [.int (xs (x3 + 1).toNatClampNeg)]) (rest := [.int r0]) ⟨hx, hb, hml, hown, hts⟩ (cM_heap l dC dI hM aM cM tc' cl' tr' g' (xs (x3 + 1).toNatClampNeg) _ hw) (cwV 1 hts gL_law_X1_heap rfl rfl rfl (by decide +kernel) ⟨Nat.le_of_ble_eq_true rfl, Nat.le_of_ble_eq_true rfl⟩) ⟨fun a U g mk q => by obtain ⟨q0, qP, qK⟩ := q; exact ⟨q0, qP, va_K.moved (u := U) (U := U.calling g mk a) (Vm.Alike.refl U.vm) qK⟩, va_recv hKM hPc (ci := 1) (q0 := 0) rfl rfl, fun U hU hW => ⟨rfl, by rw [hU]; exact hPc, va_K.moved hW.alike hKM⟩⟩ rfl rfl hl.1 rfl (lv_room (Nat.le_of_ble_eq_true rfl)) dL_law_317 ⟨Nat.le_of_ble_eq_true rfl, Nat.le_of_ble_eq_true rfl⟩) (fun r1 hw => ?_)
  try dsimp only at hw
  clear hPc
  refine lv_icmp_eq (tgt := 867) hx hb dL_law_320 (by decide) (fun hc => ?_) (fun hc => ?_)
  · exact hnext H locs ls tc cl tr g tc' cl' tr' g' hw.2 hP hD hS hl
  · exact absurd hw.1 hc
set_option maxHeartbeats 4000000 in
set_option maxRecDepth 100000 in
theorem law_many {p : Program} {l : Launch} {e : Env} {s : State} {m : MethodId} {below : List Frame} {meth : Method} {c : Code} {dC : Nat → ClassId} {dI : Nat → Nat → Nat} {b L : Nat} {xs : Nat → Int32} {hX hM : Nat} {aX aM : Nat → Nat} {cX cM : Nat → ClassId} (Rel : Int32 → Int32 → Int64 → Sg → Int32 → Int32 → Int64 → Sg → Prop) (St_many : Step_many Rel) (C0 : lw_At p s m meth c b L xs) (hK : va_K (dC, dI) vwCl (XT cX ++ MT cM) s) (x3 : Int32) (hi1 : vp_in (x3 + 1) L) (hi2 : vp_in (x3 + 2) L) (hi3 : vp_in (x3 + 3) L) (hi4 : vp_in (x3 + 4) L) (hnext : ∀ (H : Heap) (locs : List Loc) (ls : Array Slot) (tc cl : Int32) (tr : Int64) (g : Sg) (tc' cl' : Int32) (tr' : Int64) (g' : Sg), Rel tc cl tr g tc' cl' tr' g' → va_P (dC, dI) vwCl ((XL hX aX cX tc cl tr g) ++ (ML hM aM cM tc' cl' tr' g')) H → va_D (fun q : Nat => s.heap.size ≤ q) ((XL hX aX cX tc cl tr g) ++ (ML hM aM cM tc' cl' tr' g')) → va_S (fun q : Nat => s.heap.size ≤ q) s.heap H locs → lv_has ls 4 [(0, .ref b), (1, .ref hX), (2, .ref hM), (3, .int x3)] → W p l e room_1 s m #[Value.ref b] below meth c H locs 18 1461 (lw_Z below #[Value.ref b] s) (F0 m 867 ls [])) : ∀ (H : Heap) (locs : List Loc) (ls : Array Slot) (tc cl : Int32) (tr : Int64) (g : Sg) (tc' cl' : Int32) (tr' : Int64) (g' : Sg), Rel tc cl tr g tc' cl' tr' g' → va_P (dC, dI) vwCl ((XL hX aX cX tc cl tr g) ++ (ML hM aM cM tc' cl' tr' g')) H → va_D (fun q : Nat => s.heap.size ≤ q) ((XL hX aX cX tc cl tr g) ++ (ML hM aM cM tc' cl' tr' g')) → va_S (fun q : Nat => s.heap.size ≤ q) s.heap H locs → lv_has ls 4 [(0, .ref b), (1, .ref hX), (2, .ref hM), (3, .int x3)] → W p l e room_1 s m #[Value.ref b] below meth c H locs 18 1461 (lw_Z below #[Value.ref b] s) (F0 m 325 ls []) := by
  obtain ⟨hx, hb, hr, hml, hown, hts, hSc, hbl, hlocks, hgv⟩ := C0
  have hts := fun w h => hts w (wsL_law_in w h)
  have hown : s.vm.findClass RL = some m.cls := hown
  have hb : c.code = cL_law := hb
  have hA : ∀ q : Nat, s.heap.size ≤ q → (fun q : Nat => s.heap.size ≤ q) q := fun _ h => h
  have hbA : ¬ (fun q : Nat => s.heap.size ≤ q) b := Nat.not_le.mpr hbl
  have hKX := hK.sub (tys' := XT cX) [0, 1, 2, 3, 4, 5, 6, 7, 8, 9] rfl
  have hKM := hK.sub (tys' := MT cM) [10, 11, 12, 13, 14, 15] rfl
  intro H locs ls tc cl tr g tc' cl' tr' g' hRel hP hD hS hl
  have hw := St_many tc cl tr g tc' cl' tr' g' hRel
  refine lv_aload_n hx hb dL_law_325 rfl (lv_at hl 1 rfl) ?_
  have hPc := hP.sub (ws' := (XL hX aX cX tc cl tr g)) [0, 1, 2, 3, 4, 5, 6, 7, 8, 9, 10] rfl
  refine vp_callSi (W.runV (As := []) (rest := []) ⟨hx, hb, hml, hown, hts⟩ (cX_many l dC dI hX aX cX tc cl tr g _ hw) (cwV 0 hts gL_law_X0_many rfl rfl rfl (by decide +kernel) ⟨Nat.le_of_ble_eq_true rfl, Nat.le_of_ble_eq_true rfl⟩) ⟨fun a U g mk q => by obtain ⟨q0, qP, qK⟩ := q; exact ⟨q0, qP, va_K.moved (u := U) (U := U.calling g mk a) (Vm.Alike.refl U.vm) qK⟩, va_recv hKX hPc (ci := 0) (q0 := 0) rfl rfl, fun U hU hW => ⟨rfl, by rw [hU]; exact hPc, va_K.moved hW.alike hKX⟩⟩ rfl rfl hl.1 rfl (lv_room (Nat.le_of_ble_eq_true rfl)) dL_law_326 ⟨Nat.le_of_ble_eq_true rfl, Nat.le_of_ble_eq_true rfl⟩) (fun r0 hw => ?_)
  try dsimp only at hw
  clear hPc
  refine lv_aload_n hx hb dL_law_329 rfl (lv_at hl 2 rfl) ?_
  have hPc := hP.sub (ws' := (ML hM aM cM tc' cl' tr' g')) [11, 12, 13, 14, 15, 16, 17] rfl
  refine vp_callSi (W.runV (As := []) (rest := [.int r0]) ⟨hx, hb, hml, hown, hts⟩ (cM_many l dC dI hM aM cM tc' cl' tr' g' _ hw) (cwV 0 hts gL_law_X1_many rfl rfl rfl (by decide +kernel) ⟨Nat.le_of_ble_eq_true rfl, Nat.le_of_ble_eq_true rfl⟩) ⟨fun a U g mk q => by obtain ⟨q0, qP, qK⟩ := q; exact ⟨q0, qP, va_K.moved (u := U) (U := U.calling g mk a) (Vm.Alike.refl U.vm) qK⟩, va_recv hKM hPc (ci := 1) (q0 := 0) rfl rfl, fun U hU hW => ⟨rfl, by rw [hU]; exact hPc, va_K.moved hW.alike hKM⟩⟩ rfl rfl hl.1 rfl (lv_room (Nat.le_of_ble_eq_true rfl)) dL_law_330 ⟨Nat.le_of_ble_eq_true rfl, Nat.le_of_ble_eq_true rfl⟩) (fun r1 hw => ?_)
  try dsimp only at hw
  clear hPc
  refine lv_icmp_eq (tgt := 867) hx hb dL_law_333 (by decide) (fun hc => ?_) (fun hc => ?_)
  · exact hnext H locs ls tc cl tr g tc' cl' tr' g' hw.2 hP hD hS hl
  · exact absurd hw.1 hc
set_option maxHeartbeats 4000000 in
set_option maxRecDepth 100000 in
theorem law_flip {p : Program} {l : Launch} {e : Env} {s : State} {m : MethodId} {below : List Frame} {meth : Method} {c : Code} {dC : Nat → ClassId} {dI : Nat → Nat → Nat} {b L : Nat} {xs : Nat → Int32} {hX hM : Nat} {aX aM : Nat → Nat} {cX cM : Nat → ClassId} (Rel : Int32 → Int32 → Int64 → Sg → Int32 → Int32 → Int64 → Sg → Prop) (St_flip : Step_flip Rel) (C0 : lw_At p s m meth c b L xs) (hK : va_K (dC, dI) vwCl (XT cX ++ MT cM) s) (x3 : Int32) (hi1 : vp_in (x3 + 1) L) (hi2 : vp_in (x3 + 2) L) (hi3 : vp_in (x3 + 3) L) (hi4 : vp_in (x3 + 4) L) (hnext : ∀ (H : Heap) (locs : List Loc) (ls : Array Slot) (tc cl : Int32) (tr : Int64) (g : Sg) (tc' cl' : Int32) (tr' : Int64) (g' : Sg), Rel tc cl tr g tc' cl' tr' g' → va_P (dC, dI) vwCl ((XL hX aX cX tc cl tr g) ++ (ML hM aM cM tc' cl' tr' g')) H → va_D (fun q : Nat => s.heap.size ≤ q) ((XL hX aX cX tc cl tr g) ++ (ML hM aM cM tc' cl' tr' g')) → va_S (fun q : Nat => s.heap.size ≤ q) s.heap H locs → lv_has ls 4 [(0, .ref b), (1, .ref hX), (2, .ref hM), (3, .int x3)] → W p l e room_1 s m #[Value.ref b] below meth c H locs 18 1461 (lw_Z below #[Value.ref b] s) (F0 m 867 ls [])) : ∀ (H : Heap) (locs : List Loc) (ls : Array Slot) (tc cl : Int32) (tr : Int64) (g : Sg) (tc' cl' : Int32) (tr' : Int64) (g' : Sg), Rel tc cl tr g tc' cl' tr' g' → va_P (dC, dI) vwCl ((XL hX aX cX tc cl tr g) ++ (ML hM aM cM tc' cl' tr' g')) H → va_D (fun q : Nat => s.heap.size ≤ q) ((XL hX aX cX tc cl tr g) ++ (ML hM aM cM tc' cl' tr' g')) → va_S (fun q : Nat => s.heap.size ≤ q) s.heap H locs → lv_has ls 4 [(0, .ref b), (1, .ref hX), (2, .ref hM), (3, .int x3)] → W p l e room_1 s m #[Value.ref b] below meth c H locs 18 1461 (lw_Z below #[Value.ref b] s) (F0 m 338 ls []) := by
  obtain ⟨hx, hb, hr, hml, hown, hts, hSc, hbl, hlocks, hgv⟩ := C0
  have hts := fun w h => hts w (wsL_law_in w h)
  have hown : s.vm.findClass RL = some m.cls := hown
  have hb : c.code = cL_law := hb
  have hA : ∀ q : Nat, s.heap.size ≤ q → (fun q : Nat => s.heap.size ≤ q) q := fun _ h => h
  have hbA : ¬ (fun q : Nat => s.heap.size ≤ q) b := Nat.not_le.mpr hbl
  have hKX := hK.sub (tys' := XT cX) [0, 1, 2, 3, 4, 5, 6, 7, 8, 9] rfl
  have hKM := hK.sub (tys' := MT cM) [10, 11, 12, 13, 14, 15] rfl
  intro H locs ls tc cl tr g tc' cl' tr' g' hRel hP hD hS hl
  have hw := St_flip tc cl tr g tc' cl' tr' g' (xs (x3 + 1).toNatClampNeg) (xs (x3 + 2).toNatClampNeg) hRel
  refine lv_aload_n hx hb dL_law_338 rfl (lv_at hl 1 rfl) ?_
  refine lv_aload_n hx hb dL_law_339 rfl (lv_at hl 0 rfl) ?_
  refine lv_iload_n hx hb dL_law_340 rfl (lv_at hl 3 rfl) ?_
  refine lv_iconst (v := 1) hx hb dL_law_341 (by decide) ?_
  refine lv_iadd hx hb dL_law_342 ?_
  refine va_sld hx hb hSc hbl hbA hS hi1 dL_law_343 ?_
  refine lv_aload_n hx hb dL_law_344 rfl (lv_at hl 0 rfl) ?_
  refine lv_iload_n hx hb dL_law_345 rfl (lv_at hl 3 rfl) ?_
  refine lv_iconst (v := 2) hx hb dL_law_346 (by decide) ?_
  refine lv_iadd hx hb dL_law_347 ?_
  refine va_sld hx hb hSc hbl hbA hS hi2 dL_law_348 ?_
  have hPc := hP.sub (ws' := (XL hX aX cX tc cl tr g)) [0, 1, 2, 3, 4, 5, 6, 7, 8, 9, 10] rfl
  refine vp_callSi (W.runV (As := [.int (xs (x3 + 1).toNatClampNeg), .int (xs (x3 + 2).toNatClampNeg)]) (rest := []) ⟨hx, hb, hml, hown, hts⟩ (cX_flip l dC dI hX aX cX tc cl tr g (xs (x3 + 1).toNatClampNeg) (xs (x3 + 2).toNatClampNeg) _ hw) (cwV 2 hts gL_law_X0_flip rfl rfl rfl (by decide +kernel) ⟨Nat.le_of_ble_eq_true rfl, Nat.le_of_ble_eq_true rfl⟩) ⟨fun a U g mk q => by obtain ⟨q0, qP, qK⟩ := q; exact ⟨q0, qP, va_K.moved (u := U) (U := U.calling g mk a) (Vm.Alike.refl U.vm) qK⟩, va_recv hKX hPc (ci := 0) (q0 := 0) rfl rfl, fun U hU hW => ⟨rfl, by rw [hU]; exact hPc, va_K.moved hW.alike hKX⟩⟩ rfl rfl hl.1 rfl (lv_room (Nat.le_of_ble_eq_true rfl)) dL_law_349 ⟨Nat.le_of_ble_eq_true rfl, Nat.le_of_ble_eq_true rfl⟩) (fun r0 hw => ?_)
  try dsimp only at hw
  clear hPc
  refine lv_aload_n hx hb dL_law_352 rfl (lv_at hl 2 rfl) ?_
  refine lv_aload_n hx hb dL_law_353 rfl (lv_at hl 0 rfl) ?_
  refine lv_iload_n hx hb dL_law_354 rfl (lv_at hl 3 rfl) ?_
  refine lv_iconst (v := 1) hx hb dL_law_355 (by decide) ?_
  refine lv_iadd hx hb dL_law_356 ?_
  refine va_sld hx hb hSc hbl hbA hS hi1 dL_law_357 ?_
  refine lv_aload_n hx hb dL_law_358 rfl (lv_at hl 0 rfl) ?_
  refine lv_iload_n hx hb dL_law_359 rfl (lv_at hl 3 rfl) ?_
  refine lv_iconst (v := 2) hx hb dL_law_360 (by decide) ?_
  refine lv_iadd hx hb dL_law_361 ?_
  refine va_sld hx hb hSc hbl hbA hS hi2 dL_law_362 ?_
  have hPc := hP.sub (ws' := (ML hM aM cM tc' cl' tr' g')) [11, 12, 13, 14, 15, 16, 17] rfl
  refine vp_callSi (W.runV (As := [.int (xs (x3 + 1).toNatClampNeg), .int (xs (x3 + 2).toNatClampNeg)]) (rest := [.int r0]) ⟨hx, hb, hml, hown, hts⟩ (cM_flip l dC dI hM aM cM tc' cl' tr' g' (xs (x3 + 1).toNatClampNeg) (xs (x3 + 2).toNatClampNeg) _ hw) (cwV 2 hts gL_law_X1_flip rfl rfl rfl (by decide +kernel) ⟨Nat.le_of_ble_eq_true rfl, Nat.le_of_ble_eq_true rfl⟩) ⟨fun a U g mk q => by obtain ⟨q0, qP, qK⟩ := q; exact ⟨q0, qP, va_K.moved (u := U) (U := U.calling g mk a) (Vm.Alike.refl U.vm) qK⟩, va_recv hKM hPc (ci := 1) (q0 := 0) rfl rfl, fun U hU hW => ⟨rfl, by rw [hU]; exact hPc, va_K.moved hW.alike hKM⟩⟩ rfl rfl hl.1 rfl (lv_room (Nat.le_of_ble_eq_true rfl)) dL_law_363 ⟨Nat.le_of_ble_eq_true rfl, Nat.le_of_ble_eq_true rfl⟩) (fun r1 hw => ?_)
  try dsimp only at hw
  clear hPc
  refine lv_icmp_eq (tgt := 867) hx hb dL_law_366 (by decide) (fun hc => ?_) (fun hc => ?_)
  · exact hnext H locs ls tc cl tr g tc' cl' tr' g' hw.2 hP hD hS hl
  · exact absurd hw.1 hc
set_option maxHeartbeats 4000000 in
set_option maxRecDepth 100000 in
theorem law_turn {p : Program} {l : Launch} {e : Env} {s : State} {m : MethodId} {below : List Frame} {meth : Method} {c : Code} {dC : Nat → ClassId} {dI : Nat → Nat → Nat} {b L : Nat} {xs : Nat → Int32} {hX hM : Nat} {aX aM : Nat → Nat} {cX cM : Nat → ClassId} (Rel : Int32 → Int32 → Int64 → Sg → Int32 → Int32 → Int64 → Sg → Prop) (St_turn : Step_turn Rel) (C0 : lw_At p s m meth c b L xs) (hK : va_K (dC, dI) vwCl (XT cX ++ MT cM) s) (x3 : Int32) (hi1 : vp_in (x3 + 1) L) (hi2 : vp_in (x3 + 2) L) (hi3 : vp_in (x3 + 3) L) (hi4 : vp_in (x3 + 4) L) (hnext : ∀ (H : Heap) (locs : List Loc) (ls : Array Slot) (tc cl : Int32) (tr : Int64) (g : Sg) (tc' cl' : Int32) (tr' : Int64) (g' : Sg), Rel tc cl tr g tc' cl' tr' g' → va_P (dC, dI) vwCl ((XL hX aX cX tc cl tr g) ++ (ML hM aM cM tc' cl' tr' g')) H → va_D (fun q : Nat => s.heap.size ≤ q) ((XL hX aX cX tc cl tr g) ++ (ML hM aM cM tc' cl' tr' g')) → va_S (fun q : Nat => s.heap.size ≤ q) s.heap H locs → lv_has ls 4 [(0, .ref b), (1, .ref hX), (2, .ref hM), (3, .int x3)] → W p l e room_1 s m #[Value.ref b] below meth c H locs 18 1461 (lw_Z below #[Value.ref b] s) (F0 m 867 ls [])) : ∀ (H : Heap) (locs : List Loc) (ls : Array Slot) (tc cl : Int32) (tr : Int64) (g : Sg) (tc' cl' : Int32) (tr' : Int64) (g' : Sg), Rel tc cl tr g tc' cl' tr' g' → va_P (dC, dI) vwCl ((XL hX aX cX tc cl tr g) ++ (ML hM aM cM tc' cl' tr' g')) H → va_D (fun q : Nat => s.heap.size ≤ q) ((XL hX aX cX tc cl tr g) ++ (ML hM aM cM tc' cl' tr' g')) → va_S (fun q : Nat => s.heap.size ≤ q) s.heap H locs → lv_has ls 4 [(0, .ref b), (1, .ref hX), (2, .ref hM), (3, .int x3)] → W p l e room_1 s m #[Value.ref b] below meth c H locs 18 1461 (lw_Z below #[Value.ref b] s) (F0 m 371 ls []) := by
  obtain ⟨hx, hb, hr, hml, hown, hts, hSc, hbl, hlocks, hgv⟩ := C0
  have hts := fun w h => hts w (wsL_law_in w h)
  have hown : s.vm.findClass RL = some m.cls := hown
  have hb : c.code = cL_law := hb
  have hA : ∀ q : Nat, s.heap.size ≤ q → (fun q : Nat => s.heap.size ≤ q) q := fun _ h => h
  have hbA : ¬ (fun q : Nat => s.heap.size ≤ q) b := Nat.not_le.mpr hbl
  have hKX := hK.sub (tys' := XT cX) [0, 1, 2, 3, 4, 5, 6, 7, 8, 9] rfl
  have hKM := hK.sub (tys' := MT cM) [10, 11, 12, 13, 14, 15] rfl
  intro H locs ls tc cl tr g tc' cl' tr' g' hRel hP hD hS hl
  have hw := St_turn tc cl tr g tc' cl' tr' g' (xs (x3 + 1).toNatClampNeg) (xs (x3 + 2).toNatClampNeg) (xs (x3 + 3).toNatClampNeg) hRel
  refine lv_aload_n hx hb dL_law_371 rfl (lv_at hl 1 rfl) ?_
  refine lv_aload_n hx hb dL_law_372 rfl (lv_at hl 0 rfl) ?_
  refine lv_iload_n hx hb dL_law_373 rfl (lv_at hl 3 rfl) ?_
  refine lv_iconst (v := 1) hx hb dL_law_374 (by decide) ?_
  refine lv_iadd hx hb dL_law_375 ?_
  refine va_sld hx hb hSc hbl hbA hS hi1 dL_law_376 ?_
  refine lv_aload_n hx hb dL_law_377 rfl (lv_at hl 0 rfl) ?_
  refine lv_iload_n hx hb dL_law_378 rfl (lv_at hl 3 rfl) ?_
  refine lv_iconst (v := 2) hx hb dL_law_379 (by decide) ?_
  refine lv_iadd hx hb dL_law_380 ?_
  refine va_sld hx hb hSc hbl hbA hS hi2 dL_law_381 ?_
  refine lv_aload_n hx hb dL_law_382 rfl (lv_at hl 0 rfl) ?_
  refine lv_iload_n hx hb dL_law_383 rfl (lv_at hl 3 rfl) ?_
  refine lv_iconst (v := 3) hx hb dL_law_384 (by decide) ?_
  refine lv_iadd hx hb dL_law_385 ?_
  refine va_sld hx hb hSc hbl hbA hS hi3 dL_law_386 ?_
  have hPc := hP.sub (ws' := (XL hX aX cX tc cl tr g)) [0, 1, 2, 3, 4, 5, 6, 7, 8, 9, 10] rfl
  refine vp_callSi (W.runV (As := [.int (xs (x3 + 1).toNatClampNeg), .int (xs (x3 + 2).toNatClampNeg), .int (xs (x3 + 3).toNatClampNeg)]) (rest := []) ⟨hx, hb, hml, hown, hts⟩ (cX_turn l dC dI hX aX cX tc cl tr g (xs (x3 + 1).toNatClampNeg) (xs (x3 + 2).toNatClampNeg) (xs (x3 + 3).toNatClampNeg) _ hw) (cwV 3 hts gL_law_X0_turn rfl rfl rfl (by decide +kernel) ⟨Nat.le_of_ble_eq_true rfl, Nat.le_of_ble_eq_true rfl⟩) ⟨fun a U g mk q => by obtain ⟨q0, qP, qK⟩ := q; exact ⟨q0, qP, va_K.moved (u := U) (U := U.calling g mk a) (Vm.Alike.refl U.vm) qK⟩, va_recv hKX hPc (ci := 0) (q0 := 0) rfl rfl, fun U hU hW => ⟨rfl, by rw [hU]; exact hPc, va_K.moved hW.alike hKX⟩⟩ rfl rfl hl.1 rfl (lv_room (Nat.le_of_ble_eq_true rfl)) dL_law_387 ⟨Nat.le_of_ble_eq_true rfl, Nat.le_of_ble_eq_true rfl⟩) (fun r0 hw => ?_)
  try dsimp only at hw
  clear hPc
  refine lv_aload_n hx hb dL_law_390 rfl (lv_at hl 2 rfl) ?_
  refine lv_aload_n hx hb dL_law_391 rfl (lv_at hl 0 rfl) ?_
  refine lv_iload_n hx hb dL_law_392 rfl (lv_at hl 3 rfl) ?_
  refine lv_iconst (v := 1) hx hb dL_law_393 (by decide) ?_
  refine lv_iadd hx hb dL_law_394 ?_
  refine va_sld hx hb hSc hbl hbA hS hi1 dL_law_395 ?_
  refine lv_aload_n hx hb dL_law_396 rfl (lv_at hl 0 rfl) ?_
  refine lv_iload_n hx hb dL_law_397 rfl (lv_at hl 3 rfl) ?_
  refine lv_iconst (v := 2) hx hb dL_law_398 (by decide) ?_
  refine lv_iadd hx hb dL_law_399 ?_
  refine va_sld hx hb hSc hbl hbA hS hi2 dL_law_400 ?_
  refine lv_aload_n hx hb dL_law_401 rfl (lv_at hl 0 rfl) ?_
  refine lv_iload_n hx hb dL_law_402 rfl (lv_at hl 3 rfl) ?_
  refine lv_iconst (v := 3) hx hb dL_law_403 (by decide) ?_
  refine lv_iadd hx hb dL_law_404 ?_
  refine va_sld hx hb hSc hbl hbA hS hi3 dL_law_405 ?_
  have hPc := hP.sub (ws' := (ML hM aM cM tc' cl' tr' g')) [11, 12, 13, 14, 15, 16, 17] rfl
  refine vp_callSi (W.runV (As := [.int (xs (x3 + 1).toNatClampNeg), .int (xs (x3 + 2).toNatClampNeg), .int (xs (x3 + 3).toNatClampNeg)]) (rest := [.int r0]) ⟨hx, hb, hml, hown, hts⟩ (cM_turn l dC dI hM aM cM tc' cl' tr' g' (xs (x3 + 1).toNatClampNeg) (xs (x3 + 2).toNatClampNeg) (xs (x3 + 3).toNatClampNeg) _ hw) (cwV 3 hts gL_law_X1_turn rfl rfl rfl (by decide +kernel) ⟨Nat.le_of_ble_eq_true rfl, Nat.le_of_ble_eq_true rfl⟩) ⟨fun a U g mk q => by obtain ⟨q0, qP, qK⟩ := q; exact ⟨q0, qP, va_K.moved (u := U) (U := U.calling g mk a) (Vm.Alike.refl U.vm) qK⟩, va_recv hKM hPc (ci := 1) (q0 := 0) rfl rfl, fun U hU hW => ⟨rfl, by rw [hU]; exact hPc, va_K.moved hW.alike hKM⟩⟩ rfl rfl hl.1 rfl (lv_room (Nat.le_of_ble_eq_true rfl)) dL_law_406 ⟨Nat.le_of_ble_eq_true rfl, Nat.le_of_ble_eq_true rfl⟩) (fun r1 hw => ?_)
  try dsimp only at hw
  clear hPc
  refine lv_icmp_eq (tgt := 867) hx hb dL_law_409 (by decide) (fun hc => ?_) (fun hc => ?_)
  · exact hnext H locs ls tc cl tr g tc' cl' tr' g' hw.2 hP hD hS hl
  · exact absurd hw.1 hc
set_option maxHeartbeats 4000000 in
set_option maxRecDepth 100000 in
theorem law_orbit {p : Program} {l : Launch} {e : Env} {s : State} {m : MethodId} {below : List Frame} {meth : Method} {c : Code} {dC : Nat → ClassId} {dI : Nat → Nat → Nat} {b L : Nat} {xs : Nat → Int32} {hX hM : Nat} {aX aM : Nat → Nat} {cX cM : Nat → ClassId} (Rel : Int32 → Int32 → Int64 → Sg → Int32 → Int32 → Int64 → Sg → Prop) (St_orbit : Step_orbit Rel) (C0 : lw_At p s m meth c b L xs) (hK : va_K (dC, dI) vwCl (XT cX ++ MT cM) s) (x3 : Int32) (hi1 : vp_in (x3 + 1) L) (hi2 : vp_in (x3 + 2) L) (hi3 : vp_in (x3 + 3) L) (hi4 : vp_in (x3 + 4) L) (hnext : ∀ (H : Heap) (locs : List Loc) (ls : Array Slot) (tc cl : Int32) (tr : Int64) (g : Sg) (tc' cl' : Int32) (tr' : Int64) (g' : Sg), Rel tc cl tr g tc' cl' tr' g' → va_P (dC, dI) vwCl ((XL hX aX cX tc cl tr g) ++ (ML hM aM cM tc' cl' tr' g')) H → va_D (fun q : Nat => s.heap.size ≤ q) ((XL hX aX cX tc cl tr g) ++ (ML hM aM cM tc' cl' tr' g')) → va_S (fun q : Nat => s.heap.size ≤ q) s.heap H locs → lv_has ls 4 [(0, .ref b), (1, .ref hX), (2, .ref hM), (3, .int x3)] → W p l e room_1 s m #[Value.ref b] below meth c H locs 18 1461 (lw_Z below #[Value.ref b] s) (F0 m 867 ls [])) : ∀ (H : Heap) (locs : List Loc) (ls : Array Slot) (tc cl : Int32) (tr : Int64) (g : Sg) (tc' cl' : Int32) (tr' : Int64) (g' : Sg), Rel tc cl tr g tc' cl' tr' g' → va_P (dC, dI) vwCl ((XL hX aX cX tc cl tr g) ++ (ML hM aM cM tc' cl' tr' g')) H → va_D (fun q : Nat => s.heap.size ≤ q) ((XL hX aX cX tc cl tr g) ++ (ML hM aM cM tc' cl' tr' g')) → va_S (fun q : Nat => s.heap.size ≤ q) s.heap H locs → lv_has ls 4 [(0, .ref b), (1, .ref hX), (2, .ref hM), (3, .int x3)] → W p l e room_1 s m #[Value.ref b] below meth c H locs 18 1461 (lw_Z below #[Value.ref b] s) (F0 m 414 ls []) := by
  obtain ⟨hx, hb, hr, hml, hown, hts, hSc, hbl, hlocks, hgv⟩ := C0
  have hts := fun w h => hts w (wsL_law_in w h)
  have hown : s.vm.findClass RL = some m.cls := hown
  have hb : c.code = cL_law := hb
  have hA : ∀ q : Nat, s.heap.size ≤ q → (fun q : Nat => s.heap.size ≤ q) q := fun _ h => h
  have hbA : ¬ (fun q : Nat => s.heap.size ≤ q) b := Nat.not_le.mpr hbl
  have hKX := hK.sub (tys' := XT cX) [0, 1, 2, 3, 4, 5, 6, 7, 8, 9] rfl
  have hKM := hK.sub (tys' := MT cM) [10, 11, 12, 13, 14, 15] rfl
  intro H locs ls tc cl tr g tc' cl' tr' g' hRel hP hD hS hl
  have hw := St_orbit tc cl tr g tc' cl' tr' g' (xs (x3 + 1).toNatClampNeg) (xs (x3 + 2).toNatClampNeg) hRel
  refine lv_aload_n hx hb dL_law_414 rfl (lv_at hl 1 rfl) ?_
  refine lv_aload_n hx hb dL_law_415 rfl (lv_at hl 0 rfl) ?_
  refine lv_iload_n hx hb dL_law_416 rfl (lv_at hl 3 rfl) ?_
  refine lv_iconst (v := 1) hx hb dL_law_417 (by decide) ?_
  refine lv_iadd hx hb dL_law_418 ?_
  refine va_sld hx hb hSc hbl hbA hS hi1 dL_law_419 ?_
  refine lv_aload_n hx hb dL_law_420 rfl (lv_at hl 0 rfl) ?_
  refine lv_iload_n hx hb dL_law_421 rfl (lv_at hl 3 rfl) ?_
  refine lv_iconst (v := 2) hx hb dL_law_422 (by decide) ?_
  refine lv_iadd hx hb dL_law_423 ?_
  refine va_sld hx hb hSc hbl hbA hS hi2 dL_law_424 ?_
  have hPc := hP.sub (ws' := (XL hX aX cX tc cl tr g)) [0, 1, 2, 3, 4, 5, 6, 7, 8, 9, 10] rfl
  have hDc := hD.sub (ws' := (XL hX aX cX tc cl tr g)) [0, 1, 2, 3, 4, 5, 6, 7, 8, 9, 10] (by decide) rfl
  have hFc := va_free (wc := (XL hX aX cX tc cl tr g)) hD hS hA [0, 1, 2, 3, 4, 5, 6, 7, 8, 9, 10] rfl
  refine va_calli (va_runV (As := [.int (xs (x3 + 1).toNatClampNeg), .int (xs (x3 + 2).toNatClampNeg)]) (rest := []) ⟨hx, hb, hml, hown, hts⟩ (cX_orbit l dC dI hX aX cX H.size tc cl tr g (xs (x3 + 1).toNatClampNeg) (xs (x3 + 2).toNatClampNeg) _ hw) (cwV 2 hts gL_law_X0_orbit rfl rfl rfl (by decide +kernel) ⟨Nat.le_of_ble_eq_true rfl, Nat.le_of_ble_eq_true rfl⟩) ⟨fun a U g mk q => by obtain ⟨q0, q1, qP, qK, qD⟩ := q; exact ⟨q0, q1, qP, va_K.moved (u := U) (U := U.calling g mk a) (Vm.Alike.refl U.vm) qK, qD⟩, va_recv hKX hPc (ci := 0) (q0 := 0) rfl rfl, fun U hU hW => ⟨rfl, by rw [hU], by rw [hU]; exact hPc, va_K.moved hW.alike hKX, hDc.weaken (fun _ _ _ _ => trivial)⟩⟩ rfl rfl hl.1 rfl (lv_room (Nat.le_of_ble_eq_true rfl)) dL_law_425 ⟨Nat.le_of_ble_eq_true rfl, Nat.le_of_ble_eq_true rfl⟩) hS (fun q _ h => hFc q h) hFc (fun r0 g_0 t H1 locs ht hvm hw hB hz1 hk1 hS => ?_)
  obtain ⟨hP1, hK1, hD1⟩ := hB
  rw [ht] at hP1
  obtain ⟨hP, hD⟩ := va_join (wr := (ML hM aM cM tc' cl' tr' g')) (w1 := (XL hX aX cX tc cl tr g_0)) hP hD [0, 1, 2, 3, 4, 5, 6, 7, 8, 9, 10] [11, 12, 13, 14, 15, 16, 17] rfl rfl (by decide) (by decide) hk1 hFc hP1 hD1
  have hP := hP.sub (ws' := ((XL hX aX cX tc cl tr g_0) ++ (ML hM aM cM tc' cl' tr' g'))) [7, 8, 9, 10, 11, 12, 13, 14, 15, 16, 17, 0, 1, 2, 3, 4, 5, 6] rfl
  have hD := hD.sub (ws' := ((XL hX aX cX tc cl tr g_0) ++ (ML hM aM cM tc' cl' tr' g'))) [7, 8, 9, 10, 11, 12, 13, 14, 15, 16, 17, 0, 1, 2, 3, 4, 5, 6] (by decide) rfl
  clear hP1 hK1 hD1 hFc hk1 hz1 hvm ht hPc hDc
  generalize H1 = H at hP hS ⊢
  try dsimp only at hw
  refine lv_aload_n hx hb dL_law_428 rfl (lv_at hl 2 rfl) ?_
  refine lv_aload_n hx hb dL_law_429 rfl (lv_at hl 0 rfl) ?_
  refine lv_iload_n hx hb dL_law_430 rfl (lv_at hl 3 rfl) ?_
  refine lv_iconst (v := 1) hx hb dL_law_431 (by decide) ?_
  refine lv_iadd hx hb dL_law_432 ?_
  refine va_sld hx hb hSc hbl hbA hS hi1 dL_law_433 ?_
  refine lv_aload_n hx hb dL_law_434 rfl (lv_at hl 0 rfl) ?_
  refine lv_iload_n hx hb dL_law_435 rfl (lv_at hl 3 rfl) ?_
  refine lv_iconst (v := 2) hx hb dL_law_436 (by decide) ?_
  refine lv_iadd hx hb dL_law_437 ?_
  refine va_sld hx hb hSc hbl hbA hS hi2 dL_law_438 ?_
  have hPc := hP.sub (ws' := (ML hM aM cM tc' cl' tr' g')) [11, 12, 13, 14, 15, 16, 17] rfl
  refine vp_callSi (W.runV (As := [.int (xs (x3 + 1).toNatClampNeg), .int (xs (x3 + 2).toNatClampNeg)]) (rest := [.int r0]) ⟨hx, hb, hml, hown, hts⟩ (cM_orbit l dC dI hM aM cM tc' cl' tr' g' (xs (x3 + 1).toNatClampNeg) (xs (x3 + 2).toNatClampNeg) _ hw) (cwV 2 hts gL_law_X1_orbit rfl rfl rfl (by decide +kernel) ⟨Nat.le_of_ble_eq_true rfl, Nat.le_of_ble_eq_true rfl⟩) ⟨fun a U g mk q => by obtain ⟨q0, qP, qK⟩ := q; exact ⟨q0, qP, va_K.moved (u := U) (U := U.calling g mk a) (Vm.Alike.refl U.vm) qK⟩, va_recv hKM hPc (ci := 1) (q0 := 0) rfl rfl, fun U hU hW => ⟨rfl, by rw [hU]; exact hPc, va_K.moved hW.alike hKM⟩⟩ rfl rfl hl.1 rfl (lv_room (Nat.le_of_ble_eq_true rfl)) dL_law_439 ⟨Nat.le_of_ble_eq_true rfl, Nat.le_of_ble_eq_true rfl⟩) (fun r1 hw => ?_)
  try dsimp only at hw
  clear hPc
  refine lv_icmp_eq (tgt := 867) hx hb dL_law_442 (by decide) (fun hc => ?_) (fun hc => ?_)
  · exact hnext H locs ls tc cl tr g_0 tc' cl' tr' g' hw.2 hP hD hS hl
  · exact absurd hw.1 hc
set_option maxHeartbeats 4000000 in
set_option maxRecDepth 100000 in
theorem law_orbits {p : Program} {l : Launch} {e : Env} {s : State} {m : MethodId} {below : List Frame} {meth : Method} {c : Code} {dC : Nat → ClassId} {dI : Nat → Nat → Nat} {b L : Nat} {xs : Nat → Int32} {hX hM : Nat} {aX aM : Nat → Nat} {cX cM : Nat → ClassId} (Rel : Int32 → Int32 → Int64 → Sg → Int32 → Int32 → Int64 → Sg → Prop) (St_orbits : Step_orbits Rel) (C0 : lw_At p s m meth c b L xs) (hK : va_K (dC, dI) vwCl (XT cX ++ MT cM) s) (x3 : Int32) (hi1 : vp_in (x3 + 1) L) (hi2 : vp_in (x3 + 2) L) (hi3 : vp_in (x3 + 3) L) (hi4 : vp_in (x3 + 4) L) (hnext : ∀ (H : Heap) (locs : List Loc) (ls : Array Slot) (tc cl : Int32) (tr : Int64) (g : Sg) (tc' cl' : Int32) (tr' : Int64) (g' : Sg), Rel tc cl tr g tc' cl' tr' g' → va_P (dC, dI) vwCl ((XL hX aX cX tc cl tr g) ++ (ML hM aM cM tc' cl' tr' g')) H → va_D (fun q : Nat => s.heap.size ≤ q) ((XL hX aX cX tc cl tr g) ++ (ML hM aM cM tc' cl' tr' g')) → va_S (fun q : Nat => s.heap.size ≤ q) s.heap H locs → lv_has ls 4 [(0, .ref b), (1, .ref hX), (2, .ref hM), (3, .int x3)] → W p l e room_1 s m #[Value.ref b] below meth c H locs 18 1461 (lw_Z below #[Value.ref b] s) (F0 m 867 ls [])) : ∀ (H : Heap) (locs : List Loc) (ls : Array Slot) (tc cl : Int32) (tr : Int64) (g : Sg) (tc' cl' : Int32) (tr' : Int64) (g' : Sg), Rel tc cl tr g tc' cl' tr' g' → va_P (dC, dI) vwCl ((XL hX aX cX tc cl tr g) ++ (ML hM aM cM tc' cl' tr' g')) H → va_D (fun q : Nat => s.heap.size ≤ q) ((XL hX aX cX tc cl tr g) ++ (ML hM aM cM tc' cl' tr' g')) → va_S (fun q : Nat => s.heap.size ≤ q) s.heap H locs → lv_has ls 4 [(0, .ref b), (1, .ref hX), (2, .ref hM), (3, .int x3)] → W p l e room_1 s m #[Value.ref b] below meth c H locs 18 1461 (lw_Z below #[Value.ref b] s) (F0 m 447 ls []) := by
  obtain ⟨hx, hb, hr, hml, hown, hts, hSc, hbl, hlocks, hgv⟩ := C0
  have hts := fun w h => hts w (wsL_law_in w h)
  have hown : s.vm.findClass RL = some m.cls := hown
  have hb : c.code = cL_law := hb
  have hA : ∀ q : Nat, s.heap.size ≤ q → (fun q : Nat => s.heap.size ≤ q) q := fun _ h => h
  have hbA : ¬ (fun q : Nat => s.heap.size ≤ q) b := Nat.not_le.mpr hbl
  have hKX := hK.sub (tys' := XT cX) [0, 1, 2, 3, 4, 5, 6, 7, 8, 9] rfl
  have hKM := hK.sub (tys' := MT cM) [10, 11, 12, 13, 14, 15] rfl
  intro H locs ls tc cl tr g tc' cl' tr' g' hRel hP hD hS hl
  have hw := St_orbits tc cl tr g tc' cl' tr' g' (xs (x3 + 1).toNatClampNeg) (xs (x3 + 2).toNatClampNeg) hRel
  refine lv_aload_n hx hb dL_law_447 rfl (lv_at hl 1 rfl) ?_
  refine lv_aload_n hx hb dL_law_448 rfl (lv_at hl 0 rfl) ?_
  refine lv_iload_n hx hb dL_law_449 rfl (lv_at hl 3 rfl) ?_
  refine lv_iconst (v := 1) hx hb dL_law_450 (by decide) ?_
  refine lv_iadd hx hb dL_law_451 ?_
  refine va_sld hx hb hSc hbl hbA hS hi1 dL_law_452 ?_
  refine lv_aload_n hx hb dL_law_453 rfl (lv_at hl 0 rfl) ?_
  refine lv_iload_n hx hb dL_law_454 rfl (lv_at hl 3 rfl) ?_
  refine lv_iconst (v := 2) hx hb dL_law_455 (by decide) ?_
  refine lv_iadd hx hb dL_law_456 ?_
  refine va_sld hx hb hSc hbl hbA hS hi2 dL_law_457 ?_
  have hPc := hP.sub (ws' := (XL hX aX cX tc cl tr g)) [0, 1, 2, 3, 4, 5, 6, 7, 8, 9, 10] rfl
  have hDc := hD.sub (ws' := (XL hX aX cX tc cl tr g)) [0, 1, 2, 3, 4, 5, 6, 7, 8, 9, 10] (by decide) rfl
  have hFc := va_free (wc := (XL hX aX cX tc cl tr g)) hD hS hA [0, 1, 2, 3, 4, 5, 6, 7, 8, 9, 10] rfl
  refine va_calli (va_runV (As := [.int (xs (x3 + 1).toNatClampNeg), .int (xs (x3 + 2).toNatClampNeg)]) (rest := []) ⟨hx, hb, hml, hown, hts⟩ (cX_orbits l dC dI hX aX cX H.size tc cl tr g (xs (x3 + 1).toNatClampNeg) (xs (x3 + 2).toNatClampNeg) _ hw) (cwV 2 hts gL_law_X0_orbits rfl rfl rfl (by decide +kernel) ⟨Nat.le_of_ble_eq_true rfl, Nat.le_of_ble_eq_true rfl⟩) ⟨fun a U g mk q => by obtain ⟨q0, q1, qP, qK, qD⟩ := q; exact ⟨q0, q1, qP, va_K.moved (u := U) (U := U.calling g mk a) (Vm.Alike.refl U.vm) qK, qD⟩, va_recv hKX hPc (ci := 0) (q0 := 0) rfl rfl, fun U hU hW => ⟨rfl, by rw [hU], by rw [hU]; exact hPc, va_K.moved hW.alike hKX, hDc.weaken (fun _ _ _ _ => trivial)⟩⟩ rfl rfl hl.1 rfl (lv_room (Nat.le_of_ble_eq_true rfl)) dL_law_458 ⟨Nat.le_of_ble_eq_true rfl, Nat.le_of_ble_eq_true rfl⟩) hS (fun q _ h => hFc q h) hFc (fun r0 g_0 t H1 locs ht hvm hw hB hz1 hk1 hS => ?_)
  obtain ⟨hP1, hK1, hD1⟩ := hB
  rw [ht] at hP1
  obtain ⟨hP, hD⟩ := va_join (wr := (ML hM aM cM tc' cl' tr' g')) (w1 := (XL hX aX cX tc cl tr g_0)) hP hD [0, 1, 2, 3, 4, 5, 6, 7, 8, 9, 10] [11, 12, 13, 14, 15, 16, 17] rfl rfl (by decide) (by decide) hk1 hFc hP1 hD1
  have hP := hP.sub (ws' := ((XL hX aX cX tc cl tr g_0) ++ (ML hM aM cM tc' cl' tr' g'))) [7, 8, 9, 10, 11, 12, 13, 14, 15, 16, 17, 0, 1, 2, 3, 4, 5, 6] rfl
  have hD := hD.sub (ws' := ((XL hX aX cX tc cl tr g_0) ++ (ML hM aM cM tc' cl' tr' g'))) [7, 8, 9, 10, 11, 12, 13, 14, 15, 16, 17, 0, 1, 2, 3, 4, 5, 6] (by decide) rfl
  clear hP1 hK1 hD1 hFc hk1 hz1 hvm ht hPc hDc
  generalize H1 = H at hP hS ⊢
  try dsimp only at hw
  refine lv_aload_n hx hb dL_law_461 rfl (lv_at hl 2 rfl) ?_
  refine lv_aload_n hx hb dL_law_462 rfl (lv_at hl 0 rfl) ?_
  refine lv_iload_n hx hb dL_law_463 rfl (lv_at hl 3 rfl) ?_
  refine lv_iconst (v := 1) hx hb dL_law_464 (by decide) ?_
  refine lv_iadd hx hb dL_law_465 ?_
  refine va_sld hx hb hSc hbl hbA hS hi1 dL_law_466 ?_
  refine lv_aload_n hx hb dL_law_467 rfl (lv_at hl 0 rfl) ?_
  refine lv_iload_n hx hb dL_law_468 rfl (lv_at hl 3 rfl) ?_
  refine lv_iconst (v := 2) hx hb dL_law_469 (by decide) ?_
  refine lv_iadd hx hb dL_law_470 ?_
  refine va_sld hx hb hSc hbl hbA hS hi2 dL_law_471 ?_
  have hPc := hP.sub (ws' := (ML hM aM cM tc' cl' tr' g')) [11, 12, 13, 14, 15, 16, 17] rfl
  have hDc := hD.sub (ws' := (ML hM aM cM tc' cl' tr' g')) [11, 12, 13, 14, 15, 16, 17] (by decide) rfl
  have hFc := va_free (wc := (ML hM aM cM tc' cl' tr' g')) hD hS hA [11, 12, 13, 14, 15, 16, 17] rfl
  refine va_calli (va_runV (As := [.int (xs (x3 + 1).toNatClampNeg), .int (xs (x3 + 2).toNatClampNeg)]) (rest := [.int r0]) ⟨hx, hb, hml, hown, hts⟩ (cM_orbits l dC dI hM aM cM H.size tc' cl' tr' g' (xs (x3 + 1).toNatClampNeg) (xs (x3 + 2).toNatClampNeg) _ hw) (cwV 2 hts gL_law_X1_orbits rfl rfl rfl (by decide +kernel) ⟨Nat.le_of_ble_eq_true rfl, Nat.le_of_ble_eq_true rfl⟩) ⟨fun a U g mk q => by obtain ⟨q0, q1, qP, qK, qD⟩ := q; exact ⟨q0, q1, qP, va_K.moved (u := U) (U := U.calling g mk a) (Vm.Alike.refl U.vm) qK, qD⟩, va_recv hKM hPc (ci := 1) (q0 := 0) rfl rfl, fun U hU hW => ⟨rfl, by rw [hU], by rw [hU]; exact hPc, va_K.moved hW.alike hKM, hDc.weaken (fun _ _ _ _ => trivial)⟩⟩ rfl rfl hl.1 rfl (lv_room (Nat.le_of_ble_eq_true rfl)) dL_law_472 ⟨Nat.le_of_ble_eq_true rfl, Nat.le_of_ble_eq_true rfl⟩) hS (fun q _ h => hFc q h) hFc (fun r1 g_1 t H1 locs ht hvm hw hB hz1 hk1 hS => ?_)
  obtain ⟨hP1, hK1, hD1⟩ := hB
  rw [ht] at hP1
  obtain ⟨hP, hD⟩ := va_join (wr := (XL hX aX cX tc cl tr g_0)) (w1 := (ML hM aM cM tc' cl' tr' g_1)) hP hD [11, 12, 13, 14, 15, 16, 17] [0, 1, 2, 3, 4, 5, 6, 7, 8, 9, 10] rfl rfl (by decide) (by decide) hk1 hFc hP1 hD1
  clear hP1 hK1 hD1 hFc hk1 hz1 hvm ht hPc hDc
  generalize H1 = H at hP hS ⊢
  try dsimp only at hw
  refine lv_icmp_eq (tgt := 867) hx hb dL_law_475 (by decide) (fun hc => ?_) (fun hc => ?_)
  · exact hnext H locs ls tc cl tr g_0 tc' cl' tr' g_1 hw.2 hP hD hS hl
  · exact absurd hw.1 hc
set_option maxHeartbeats 4000000 in
set_option maxRecDepth 100000 in
theorem law_measure {p : Program} {l : Launch} {e : Env} {s : State} {m : MethodId} {below : List Frame} {meth : Method} {c : Code} {dC : Nat → ClassId} {dI : Nat → Nat → Nat} {b L : Nat} {xs : Nat → Int32} {hX hM : Nat} {aX aM : Nat → Nat} {cX cM : Nat → ClassId} (Rel : Int32 → Int32 → Int64 → Sg → Int32 → Int32 → Int64 → Sg → Prop) (St_measure : Step_measure Rel) (C0 : lw_At p s m meth c b L xs) (hK : va_K (dC, dI) vwCl (XT cX ++ MT cM) s) (x3 : Int32) (hi1 : vp_in (x3 + 1) L) (hi2 : vp_in (x3 + 2) L) (hi3 : vp_in (x3 + 3) L) (hi4 : vp_in (x3 + 4) L) (hnext : ∀ (H : Heap) (locs : List Loc) (ls : Array Slot) (tc cl : Int32) (tr : Int64) (g : Sg) (tc' cl' : Int32) (tr' : Int64) (g' : Sg), Rel tc cl tr g tc' cl' tr' g' → va_P (dC, dI) vwCl ((XL hX aX cX tc cl tr g) ++ (ML hM aM cM tc' cl' tr' g')) H → va_D (fun q : Nat => s.heap.size ≤ q) ((XL hX aX cX tc cl tr g) ++ (ML hM aM cM tc' cl' tr' g')) → va_S (fun q : Nat => s.heap.size ≤ q) s.heap H locs → lv_has ls 4 [(0, .ref b), (1, .ref hX), (2, .ref hM), (3, .int x3)] → W p l e room_1 s m #[Value.ref b] below meth c H locs 18 1461 (lw_Z below #[Value.ref b] s) (F0 m 867 ls [])) : ∀ (H : Heap) (locs : List Loc) (ls : Array Slot) (tc cl : Int32) (tr : Int64) (g : Sg) (tc' cl' : Int32) (tr' : Int64) (g' : Sg), Rel tc cl tr g tc' cl' tr' g' → va_P (dC, dI) vwCl ((XL hX aX cX tc cl tr g) ++ (ML hM aM cM tc' cl' tr' g')) H → va_D (fun q : Nat => s.heap.size ≤ q) ((XL hX aX cX tc cl tr g) ++ (ML hM aM cM tc' cl' tr' g')) → va_S (fun q : Nat => s.heap.size ≤ q) s.heap H locs → lv_has ls 4 [(0, .ref b), (1, .ref hX), (2, .ref hM), (3, .int x3)] → W p l e room_1 s m #[Value.ref b] below meth c H locs 18 1461 (lw_Z below #[Value.ref b] s) (F0 m 480 ls []) := by
  obtain ⟨hx, hb, hr, hml, hown, hts, hSc, hbl, hlocks, hgv⟩ := C0
  have hts := fun w h => hts w (wsL_law_in w h)
  have hown : s.vm.findClass RL = some m.cls := hown
  have hb : c.code = cL_law := hb
  have hA : ∀ q : Nat, s.heap.size ≤ q → (fun q : Nat => s.heap.size ≤ q) q := fun _ h => h
  have hbA : ¬ (fun q : Nat => s.heap.size ≤ q) b := Nat.not_le.mpr hbl
  have hKX := hK.sub (tys' := XT cX) [0, 1, 2, 3, 4, 5, 6, 7, 8, 9] rfl
  have hKM := hK.sub (tys' := MT cM) [10, 11, 12, 13, 14, 15] rfl
  intro H locs ls tc cl tr g tc' cl' tr' g' hRel hP hD hS hl
  have hw := St_measure tc cl tr g tc' cl' tr' g' (xs (x3 + 1).toNatClampNeg) (xs (x3 + 2).toNatClampNeg) hRel
  refine lv_aload_n hx hb dL_law_480 rfl (lv_at hl 1 rfl) ?_
  refine lv_aload_n hx hb dL_law_481 rfl (lv_at hl 0 rfl) ?_
  refine lv_iload_n hx hb dL_law_482 rfl (lv_at hl 3 rfl) ?_
  refine lv_iconst (v := 1) hx hb dL_law_483 (by decide) ?_
  refine lv_iadd hx hb dL_law_484 ?_
  refine va_sld hx hb hSc hbl hbA hS hi1 dL_law_485 ?_
  refine lv_aload_n hx hb dL_law_486 rfl (lv_at hl 0 rfl) ?_
  refine lv_iload_n hx hb dL_law_487 rfl (lv_at hl 3 rfl) ?_
  refine lv_iconst (v := 2) hx hb dL_law_488 (by decide) ?_
  refine lv_iadd hx hb dL_law_489 ?_
  refine va_sld hx hb hSc hbl hbA hS hi2 dL_law_490 ?_
  have hPc := hP.sub (ws' := (XL hX aX cX tc cl tr g)) [0, 1, 2, 3, 4, 5, 6, 7, 8, 9, 10] rfl
  have hDc := hD.sub (ws' := (XL hX aX cX tc cl tr g)) [0, 1, 2, 3, 4, 5, 6, 7, 8, 9, 10] (by decide) rfl
  have hFc := va_free (wc := (XL hX aX cX tc cl tr g)) hD hS hA [0, 1, 2, 3, 4, 5, 6, 7, 8, 9, 10] rfl
  refine va_calli (va_runV (As := [.int (xs (x3 + 1).toNatClampNeg), .int (xs (x3 + 2).toNatClampNeg)]) (rest := []) ⟨hx, hb, hml, hown, hts⟩ (cX_measure l dC dI hX aX cX H.size tc cl tr g (xs (x3 + 1).toNatClampNeg) (xs (x3 + 2).toNatClampNeg) _ hw) (cwV 2 hts gL_law_X0_measure rfl rfl rfl (by decide +kernel) ⟨Nat.le_of_ble_eq_true rfl, Nat.le_of_ble_eq_true rfl⟩) ⟨fun a U g mk q => by obtain ⟨q0, q1, qP, qK, qD⟩ := q; exact ⟨q0, q1, qP, va_K.moved (u := U) (U := U.calling g mk a) (Vm.Alike.refl U.vm) qK, qD⟩, va_recv hKX hPc (ci := 0) (q0 := 0) rfl rfl, fun U hU hW => ⟨rfl, by rw [hU], by rw [hU]; exact hPc, va_K.moved hW.alike hKX, hDc.weaken (fun _ _ _ _ => trivial)⟩⟩ rfl rfl hl.1 rfl (lv_room (Nat.le_of_ble_eq_true rfl)) dL_law_491 ⟨Nat.le_of_ble_eq_true rfl, Nat.le_of_ble_eq_true rfl⟩) hS (fun q _ h => hFc q h) hFc (fun r0 u t H1 locs ht hvm hw hB hz1 hk1 hS => ?_)
  obtain ⟨tc_0, cl_0, tr_0, g_0⟩ := u
  obtain ⟨hP1, hK1, hD1⟩ := hB
  rw [ht] at hP1
  obtain ⟨hP, hD⟩ := va_join (wr := (ML hM aM cM tc' cl' tr' g')) (w1 := (XL hX aX cX tc_0 cl_0 tr_0 g_0)) hP hD [0, 1, 2, 3, 4, 5, 6, 7, 8, 9, 10] [11, 12, 13, 14, 15, 16, 17] rfl rfl (by decide) (by decide) hk1 hFc hP1 hD1
  have hP := hP.sub (ws' := ((XL hX aX cX tc_0 cl_0 tr_0 g_0) ++ (ML hM aM cM tc' cl' tr' g'))) [7, 8, 9, 10, 11, 12, 13, 14, 15, 16, 17, 0, 1, 2, 3, 4, 5, 6] rfl
  have hD := hD.sub (ws' := ((XL hX aX cX tc_0 cl_0 tr_0 g_0) ++ (ML hM aM cM tc' cl' tr' g'))) [7, 8, 9, 10, 11, 12, 13, 14, 15, 16, 17, 0, 1, 2, 3, 4, 5, 6] (by decide) rfl
  clear hP1 hK1 hD1 hFc hk1 hz1 hvm ht hPc hDc
  generalize H1 = H at hP hS ⊢
  try dsimp only at hw
  refine lv_aload_n hx hb dL_law_494 rfl (lv_at hl 2 rfl) ?_
  refine lv_aload_n hx hb dL_law_495 rfl (lv_at hl 0 rfl) ?_
  refine lv_iload_n hx hb dL_law_496 rfl (lv_at hl 3 rfl) ?_
  refine lv_iconst (v := 1) hx hb dL_law_497 (by decide) ?_
  refine lv_iadd hx hb dL_law_498 ?_
  refine va_sld hx hb hSc hbl hbA hS hi1 dL_law_499 ?_
  refine lv_aload_n hx hb dL_law_500 rfl (lv_at hl 0 rfl) ?_
  refine lv_iload_n hx hb dL_law_501 rfl (lv_at hl 3 rfl) ?_
  refine lv_iconst (v := 2) hx hb dL_law_502 (by decide) ?_
  refine lv_iadd hx hb dL_law_503 ?_
  refine va_sld hx hb hSc hbl hbA hS hi2 dL_law_504 ?_
  have hPc := hP.sub (ws' := (ML hM aM cM tc' cl' tr' g')) [11, 12, 13, 14, 15, 16, 17] rfl
  have hDc := hD.sub (ws' := (ML hM aM cM tc' cl' tr' g')) [11, 12, 13, 14, 15, 16, 17] (by decide) rfl
  have hFc := va_free (wc := (ML hM aM cM tc' cl' tr' g')) hD hS hA [11, 12, 13, 14, 15, 16, 17] rfl
  refine va_calli (va_runV (As := [.int (xs (x3 + 1).toNatClampNeg), .int (xs (x3 + 2).toNatClampNeg)]) (rest := [.int r0]) ⟨hx, hb, hml, hown, hts⟩ (cM_measure l dC dI hM aM cM H.size tc' cl' tr' g' (xs (x3 + 1).toNatClampNeg) (xs (x3 + 2).toNatClampNeg) _ hw) (cwV 2 hts gL_law_X1_measure rfl rfl rfl (by decide +kernel) ⟨Nat.le_of_ble_eq_true rfl, Nat.le_of_ble_eq_true rfl⟩) ⟨fun a U g mk q => by obtain ⟨q0, q1, qP, qK, qD⟩ := q; exact ⟨q0, q1, qP, va_K.moved (u := U) (U := U.calling g mk a) (Vm.Alike.refl U.vm) qK, qD⟩, va_recv hKM hPc (ci := 1) (q0 := 0) rfl rfl, fun U hU hW => ⟨rfl, by rw [hU], by rw [hU]; exact hPc, va_K.moved hW.alike hKM, hDc.weaken (fun _ _ _ _ => trivial)⟩⟩ rfl rfl hl.1 rfl (lv_room (Nat.le_of_ble_eq_true rfl)) dL_law_505 ⟨Nat.le_of_ble_eq_true rfl, Nat.le_of_ble_eq_true rfl⟩) hS (fun q _ h => hFc q h) hFc (fun r1 u t H1 locs ht hvm hw hB hz1 hk1 hS => ?_)
  obtain ⟨tc_1, cl_1, tr_1, g_1⟩ := u
  obtain ⟨hP1, hK1, hD1⟩ := hB
  rw [ht] at hP1
  obtain ⟨hP, hD⟩ := va_join (wr := (XL hX aX cX tc_0 cl_0 tr_0 g_0)) (w1 := (ML hM aM cM tc_1 cl_1 tr_1 g_1)) hP hD [11, 12, 13, 14, 15, 16, 17] [0, 1, 2, 3, 4, 5, 6, 7, 8, 9, 10] rfl rfl (by decide) (by decide) hk1 hFc hP1 hD1
  clear hP1 hK1 hD1 hFc hk1 hz1 hvm ht hPc hDc
  generalize H1 = H at hP hS ⊢
  try dsimp only at hw
  refine lv_icmp_eq (tgt := 867) hx hb dL_law_508 (by decide) (fun hc => ?_) (fun hc => ?_)
  · exact hnext H locs ls tc_0 cl_0 tr_0 g_0 tc_1 cl_1 tr_1 g_1 hw.2 hP hD hS hl
  · exact absurd hw.1 hc
set_option maxHeartbeats 4000000 in
set_option maxRecDepth 100000 in
theorem law_mean {p : Program} {l : Launch} {e : Env} {s : State} {m : MethodId} {below : List Frame} {meth : Method} {c : Code} {dC : Nat → ClassId} {dI : Nat → Nat → Nat} {b L : Nat} {xs : Nat → Int32} {hX hM : Nat} {aX aM : Nat → Nat} {cX cM : Nat → ClassId} (Rel : Int32 → Int32 → Int64 → Sg → Int32 → Int32 → Int64 → Sg → Prop) (St_mean : Step_mean Rel) (C0 : lw_At p s m meth c b L xs) (hK : va_K (dC, dI) vwCl (XT cX ++ MT cM) s) (x3 : Int32) (hi1 : vp_in (x3 + 1) L) (hi2 : vp_in (x3 + 2) L) (hi3 : vp_in (x3 + 3) L) (hi4 : vp_in (x3 + 4) L) (hnext : ∀ (H : Heap) (locs : List Loc) (ls : Array Slot) (tc cl : Int32) (tr : Int64) (g : Sg) (tc' cl' : Int32) (tr' : Int64) (g' : Sg), Rel tc cl tr g tc' cl' tr' g' → va_P (dC, dI) vwCl ((XL hX aX cX tc cl tr g) ++ (ML hM aM cM tc' cl' tr' g')) H → va_D (fun q : Nat => s.heap.size ≤ q) ((XL hX aX cX tc cl tr g) ++ (ML hM aM cM tc' cl' tr' g')) → va_S (fun q : Nat => s.heap.size ≤ q) s.heap H locs → lv_has ls 4 [(0, .ref b), (1, .ref hX), (2, .ref hM), (3, .int x3)] → W p l e room_1 s m #[Value.ref b] below meth c H locs 18 1461 (lw_Z below #[Value.ref b] s) (F0 m 867 ls [])) : ∀ (H : Heap) (locs : List Loc) (ls : Array Slot) (tc cl : Int32) (tr : Int64) (g : Sg) (tc' cl' : Int32) (tr' : Int64) (g' : Sg), Rel tc cl tr g tc' cl' tr' g' → va_P (dC, dI) vwCl ((XL hX aX cX tc cl tr g) ++ (ML hM aM cM tc' cl' tr' g')) H → va_D (fun q : Nat => s.heap.size ≤ q) ((XL hX aX cX tc cl tr g) ++ (ML hM aM cM tc' cl' tr' g')) → va_S (fun q : Nat => s.heap.size ≤ q) s.heap H locs → lv_has ls 4 [(0, .ref b), (1, .ref hX), (2, .ref hM), (3, .int x3)] → W p l e room_1 s m #[Value.ref b] below meth c H locs 18 1461 (lw_Z below #[Value.ref b] s) (F0 m 513 ls []) := by
  obtain ⟨hx, hb, hr, hml, hown, hts, hSc, hbl, hlocks, hgv⟩ := C0
  have hts := fun w h => hts w (wsL_law_in w h)
  have hown : s.vm.findClass RL = some m.cls := hown
  have hb : c.code = cL_law := hb
  have hA : ∀ q : Nat, s.heap.size ≤ q → (fun q : Nat => s.heap.size ≤ q) q := fun _ h => h
  have hbA : ¬ (fun q : Nat => s.heap.size ≤ q) b := Nat.not_le.mpr hbl
  have hKX := hK.sub (tys' := XT cX) [0, 1, 2, 3, 4, 5, 6, 7, 8, 9] rfl
  have hKM := hK.sub (tys' := MT cM) [10, 11, 12, 13, 14, 15] rfl
  intro H locs ls tc cl tr g tc' cl' tr' g' hRel hP hD hS hl
  have hw := St_mean tc cl tr g tc' cl' tr' g' (xs (x3 + 1).toNatClampNeg) (xs (x3 + 2).toNatClampNeg) (xs (x3 + 3).toNatClampNeg) (xs (x3 + 4).toNatClampNeg) hRel
  refine lv_aload_n hx hb dL_law_513 rfl (lv_at hl 1 rfl) ?_
  refine lv_aload_n hx hb dL_law_514 rfl (lv_at hl 0 rfl) ?_
  refine lv_iload_n hx hb dL_law_515 rfl (lv_at hl 3 rfl) ?_
  refine lv_iconst (v := 1) hx hb dL_law_516 (by decide) ?_
  refine lv_iadd hx hb dL_law_517 ?_
  refine va_sld hx hb hSc hbl hbA hS hi1 dL_law_518 ?_
  refine lv_aload_n hx hb dL_law_519 rfl (lv_at hl 0 rfl) ?_
  refine lv_iload_n hx hb dL_law_520 rfl (lv_at hl 3 rfl) ?_
  refine lv_iconst (v := 2) hx hb dL_law_521 (by decide) ?_
  refine lv_iadd hx hb dL_law_522 ?_
  refine va_sld hx hb hSc hbl hbA hS hi2 dL_law_523 ?_
  refine lv_aload_n hx hb dL_law_524 rfl (lv_at hl 0 rfl) ?_
  refine lv_iload_n hx hb dL_law_525 rfl (lv_at hl 3 rfl) ?_
  refine lv_iconst (v := 3) hx hb dL_law_526 (by decide) ?_
  refine lv_iadd hx hb dL_law_527 ?_
  refine va_sld hx hb hSc hbl hbA hS hi3 dL_law_528 ?_
  refine lv_aload_n hx hb dL_law_529 rfl (lv_at hl 0 rfl) ?_
  refine lv_iload_n hx hb dL_law_530 rfl (lv_at hl 3 rfl) ?_
  refine lv_iconst (v := 4) hx hb dL_law_531 (by decide) ?_
  refine lv_iadd hx hb dL_law_532 ?_
  refine va_sld hx hb hSc hbl hbA hS hi4 dL_law_533 ?_
  have hPc := hP.sub (ws' := (XL hX aX cX tc cl tr g)) [0, 1, 2, 3, 4, 5, 6, 7, 8, 9, 10] rfl
  have hDc := hD.sub (ws' := (XL hX aX cX tc cl tr g)) [0, 1, 2, 3, 4, 5, 6, 7, 8, 9, 10] (by decide) rfl
  have hFc := va_free (wc := (XL hX aX cX tc cl tr g)) hD hS hA [0, 1, 2, 3, 4, 5, 6, 7, 8, 9, 10] rfl
  refine va_calli (va_runV (As := [.int (xs (x3 + 1).toNatClampNeg), .int (xs (x3 + 2).toNatClampNeg), .int (xs (x3 + 3).toNatClampNeg), .int (xs (x3 + 4).toNatClampNeg)]) (rest := []) ⟨hx, hb, hml, hown, hts⟩ (cX_mean l dC dI hX aX cX H.size tc cl tr g (xs (x3 + 1).toNatClampNeg) (xs (x3 + 2).toNatClampNeg) (xs (x3 + 3).toNatClampNeg) (xs (x3 + 4).toNatClampNeg) _ hw) (cwV 4 hts gL_law_X0_mean rfl rfl rfl (by decide +kernel) ⟨Nat.le_of_ble_eq_true rfl, Nat.le_of_ble_eq_true rfl⟩) ⟨fun a U g mk q => by obtain ⟨q0, q1, qP, qK, qD⟩ := q; exact ⟨q0, q1, qP, va_K.moved (u := U) (U := U.calling g mk a) (Vm.Alike.refl U.vm) qK, qD⟩, va_recv hKX hPc (ci := 0) (q0 := 0) rfl rfl, fun U hU hW => ⟨rfl, by rw [hU], by rw [hU]; exact hPc, va_K.moved hW.alike hKX, hDc.weaken (fun _ _ _ _ => trivial)⟩⟩ rfl rfl hl.1 rfl (lv_room (Nat.le_of_ble_eq_true rfl)) dL_law_534 ⟨Nat.le_of_ble_eq_true rfl, Nat.le_of_ble_eq_true rfl⟩) hS (fun q _ h => hFc q h) hFc (fun r0 g_0 t H1 locs ht hvm hw hB hz1 hk1 hS => ?_)
  obtain ⟨hP1, hK1, hD1⟩ := hB
  rw [ht] at hP1
  obtain ⟨hP, hD⟩ := va_join (wr := (ML hM aM cM tc' cl' tr' g')) (w1 := (XL hX aX cX tc cl tr g_0)) hP hD [0, 1, 2, 3, 4, 5, 6, 7, 8, 9, 10] [11, 12, 13, 14, 15, 16, 17] rfl rfl (by decide) (by decide) hk1 hFc hP1 hD1
  have hP := hP.sub (ws' := ((XL hX aX cX tc cl tr g_0) ++ (ML hM aM cM tc' cl' tr' g'))) [7, 8, 9, 10, 11, 12, 13, 14, 15, 16, 17, 0, 1, 2, 3, 4, 5, 6] rfl
  have hD := hD.sub (ws' := ((XL hX aX cX tc cl tr g_0) ++ (ML hM aM cM tc' cl' tr' g'))) [7, 8, 9, 10, 11, 12, 13, 14, 15, 16, 17, 0, 1, 2, 3, 4, 5, 6] (by decide) rfl
  clear hP1 hK1 hD1 hFc hk1 hz1 hvm ht hPc hDc
  generalize H1 = H at hP hS ⊢
  try dsimp only at hw
  refine lv_aload_n hx hb dL_law_537 rfl (lv_at hl 2 rfl) ?_
  refine lv_aload_n hx hb dL_law_538 rfl (lv_at hl 0 rfl) ?_
  refine lv_iload_n hx hb dL_law_539 rfl (lv_at hl 3 rfl) ?_
  refine lv_iconst (v := 1) hx hb dL_law_540 (by decide) ?_
  refine lv_iadd hx hb dL_law_541 ?_
  refine va_sld hx hb hSc hbl hbA hS hi1 dL_law_542 ?_
  refine lv_aload_n hx hb dL_law_543 rfl (lv_at hl 0 rfl) ?_
  refine lv_iload_n hx hb dL_law_544 rfl (lv_at hl 3 rfl) ?_
  refine lv_iconst (v := 2) hx hb dL_law_545 (by decide) ?_
  refine lv_iadd hx hb dL_law_546 ?_
  refine va_sld hx hb hSc hbl hbA hS hi2 dL_law_547 ?_
  refine lv_aload_n hx hb dL_law_548 rfl (lv_at hl 0 rfl) ?_
  refine lv_iload_n hx hb dL_law_549 rfl (lv_at hl 3 rfl) ?_
  refine lv_iconst (v := 3) hx hb dL_law_550 (by decide) ?_
  refine lv_iadd hx hb dL_law_551 ?_
  refine va_sld hx hb hSc hbl hbA hS hi3 dL_law_552 ?_
  refine lv_aload_n hx hb dL_law_553 rfl (lv_at hl 0 rfl) ?_
  refine lv_iload_n hx hb dL_law_554 rfl (lv_at hl 3 rfl) ?_
  refine lv_iconst (v := 4) hx hb dL_law_555 (by decide) ?_
  refine lv_iadd hx hb dL_law_556 ?_
  refine va_sld hx hb hSc hbl hbA hS hi4 dL_law_557 ?_
  have hPc := hP.sub (ws' := (ML hM aM cM tc' cl' tr' g')) [11, 12, 13, 14, 15, 16, 17] rfl
  refine vp_callSi (W.runV (As := [.int (xs (x3 + 1).toNatClampNeg), .int (xs (x3 + 2).toNatClampNeg), .int (xs (x3 + 3).toNatClampNeg), .int (xs (x3 + 4).toNatClampNeg)]) (rest := [.int r0]) ⟨hx, hb, hml, hown, hts⟩ (cM_mean l dC dI hM aM cM tc' cl' tr' g' (xs (x3 + 1).toNatClampNeg) (xs (x3 + 2).toNatClampNeg) (xs (x3 + 3).toNatClampNeg) (xs (x3 + 4).toNatClampNeg) _ hw) (cwV 4 hts gL_law_X1_mean rfl rfl rfl (by decide +kernel) ⟨Nat.le_of_ble_eq_true rfl, Nat.le_of_ble_eq_true rfl⟩) ⟨fun a U g mk q => by obtain ⟨q0, qP, qK⟩ := q; exact ⟨q0, qP, va_K.moved (u := U) (U := U.calling g mk a) (Vm.Alike.refl U.vm) qK⟩, va_recv hKM hPc (ci := 1) (q0 := 0) rfl rfl, fun U hU hW => ⟨rfl, by rw [hU]; exact hPc, va_K.moved hW.alike hKM⟩⟩ rfl rfl hl.1 rfl (lv_room (Nat.le_of_ble_eq_true rfl)) dL_law_558 ⟨Nat.le_of_ble_eq_true rfl, Nat.le_of_ble_eq_true rfl⟩) (fun r1 hw => ?_)
  try dsimp only at hw
  clear hPc
  refine lv_icmp_eq (tgt := 867) hx hb dL_law_561 (by decide) (fun hc => ?_) (fun hc => ?_)
  · exact hnext H locs ls tc cl tr g_0 tc' cl' tr' g' hw.2 hP hD hS hl
  · exact absurd hw.1 hc
set_option maxHeartbeats 4000000 in
set_option maxRecDepth 100000 in
theorem law_even {p : Program} {l : Launch} {e : Env} {s : State} {m : MethodId} {below : List Frame} {meth : Method} {c : Code} {dC : Nat → ClassId} {dI : Nat → Nat → Nat} {b L : Nat} {xs : Nat → Int32} {hX hM : Nat} {aX aM : Nat → Nat} {cX cM : Nat → ClassId} (Rel : Int32 → Int32 → Int64 → Sg → Int32 → Int32 → Int64 → Sg → Prop) (St_even : Step_even Rel) (C0 : lw_At p s m meth c b L xs) (hK : va_K (dC, dI) vwCl (XT cX ++ MT cM) s) (x3 : Int32) (hi1 : vp_in (x3 + 1) L) (hi2 : vp_in (x3 + 2) L) (hi3 : vp_in (x3 + 3) L) (hi4 : vp_in (x3 + 4) L) (hnext : ∀ (H : Heap) (locs : List Loc) (ls : Array Slot) (tc cl : Int32) (tr : Int64) (g : Sg) (tc' cl' : Int32) (tr' : Int64) (g' : Sg), Rel tc cl tr g tc' cl' tr' g' → va_P (dC, dI) vwCl ((XL hX aX cX tc cl tr g) ++ (ML hM aM cM tc' cl' tr' g')) H → va_D (fun q : Nat => s.heap.size ≤ q) ((XL hX aX cX tc cl tr g) ++ (ML hM aM cM tc' cl' tr' g')) → va_S (fun q : Nat => s.heap.size ≤ q) s.heap H locs → lv_has ls 4 [(0, .ref b), (1, .ref hX), (2, .ref hM), (3, .int x3)] → W p l e room_1 s m #[Value.ref b] below meth c H locs 18 1461 (lw_Z below #[Value.ref b] s) (F0 m 867 ls [])) : ∀ (H : Heap) (locs : List Loc) (ls : Array Slot) (tc cl : Int32) (tr : Int64) (g : Sg) (tc' cl' : Int32) (tr' : Int64) (g' : Sg), Rel tc cl tr g tc' cl' tr' g' → va_P (dC, dI) vwCl ((XL hX aX cX tc cl tr g) ++ (ML hM aM cM tc' cl' tr' g')) H → va_D (fun q : Nat => s.heap.size ≤ q) ((XL hX aX cX tc cl tr g) ++ (ML hM aM cM tc' cl' tr' g')) → va_S (fun q : Nat => s.heap.size ≤ q) s.heap H locs → lv_has ls 4 [(0, .ref b), (1, .ref hX), (2, .ref hM), (3, .int x3)] → W p l e room_1 s m #[Value.ref b] below meth c H locs 18 1461 (lw_Z below #[Value.ref b] s) (F0 m 566 ls []) := by
  obtain ⟨hx, hb, hr, hml, hown, hts, hSc, hbl, hlocks, hgv⟩ := C0
  have hts := fun w h => hts w (wsL_law_in w h)
  have hown : s.vm.findClass RL = some m.cls := hown
  have hb : c.code = cL_law := hb
  have hA : ∀ q : Nat, s.heap.size ≤ q → (fun q : Nat => s.heap.size ≤ q) q := fun _ h => h
  have hbA : ¬ (fun q : Nat => s.heap.size ≤ q) b := Nat.not_le.mpr hbl
  have hKX := hK.sub (tys' := XT cX) [0, 1, 2, 3, 4, 5, 6, 7, 8, 9] rfl
  have hKM := hK.sub (tys' := MT cM) [10, 11, 12, 13, 14, 15] rfl
  intro H locs ls tc cl tr g tc' cl' tr' g' hRel hP hD hS hl
  have hw := St_even tc cl tr g tc' cl' tr' g' (xs (x3 + 1).toNatClampNeg) (xs (x3 + 2).toNatClampNeg) hRel
  refine lv_aload_n hx hb dL_law_566 rfl (lv_at hl 1 rfl) ?_
  refine lv_aload_n hx hb dL_law_567 rfl (lv_at hl 0 rfl) ?_
  refine lv_iload_n hx hb dL_law_568 rfl (lv_at hl 3 rfl) ?_
  refine lv_iconst (v := 1) hx hb dL_law_569 (by decide) ?_
  refine lv_iadd hx hb dL_law_570 ?_
  refine va_sld hx hb hSc hbl hbA hS hi1 dL_law_571 ?_
  refine lv_aload_n hx hb dL_law_572 rfl (lv_at hl 0 rfl) ?_
  refine lv_iload_n hx hb dL_law_573 rfl (lv_at hl 3 rfl) ?_
  refine lv_iconst (v := 2) hx hb dL_law_574 (by decide) ?_
  refine lv_iadd hx hb dL_law_575 ?_
  refine va_sld hx hb hSc hbl hbA hS hi2 dL_law_576 ?_
  have hPc := hP.sub (ws' := (XL hX aX cX tc cl tr g)) [0, 1, 2, 3, 4, 5, 6, 7, 8, 9, 10] rfl
  have hDc := hD.sub (ws' := (XL hX aX cX tc cl tr g)) [0, 1, 2, 3, 4, 5, 6, 7, 8, 9, 10] (by decide) rfl
  have hFc := va_free (wc := (XL hX aX cX tc cl tr g)) hD hS hA [0, 1, 2, 3, 4, 5, 6, 7, 8, 9, 10] rfl
  refine va_calli (va_runV (As := [.int (xs (x3 + 1).toNatClampNeg), .int (xs (x3 + 2).toNatClampNeg)]) (rest := []) ⟨hx, hb, hml, hown, hts⟩ (cX_even l dC dI hX aX cX H.size tc cl tr g (xs (x3 + 1).toNatClampNeg) (xs (x3 + 2).toNatClampNeg) _ hw) (cwV 2 hts gL_law_X0_even rfl rfl rfl (by decide +kernel) ⟨Nat.le_of_ble_eq_true rfl, Nat.le_of_ble_eq_true rfl⟩) ⟨fun a U g mk q => by obtain ⟨q0, q1, qP, qK, qD⟩ := q; exact ⟨q0, q1, qP, va_K.moved (u := U) (U := U.calling g mk a) (Vm.Alike.refl U.vm) qK, qD⟩, va_recv hKX hPc (ci := 0) (q0 := 0) rfl rfl, fun U hU hW => ⟨rfl, by rw [hU], by rw [hU]; exact hPc, va_K.moved hW.alike hKX, hDc.weaken (fun _ _ _ _ => trivial)⟩⟩ rfl rfl hl.1 rfl (lv_room (Nat.le_of_ble_eq_true rfl)) dL_law_577 ⟨Nat.le_of_ble_eq_true rfl, Nat.le_of_ble_eq_true rfl⟩) hS (fun q _ h => hFc q h) hFc (fun r0 g_0 t H1 locs ht hvm hw hB hz1 hk1 hS => ?_)
  obtain ⟨hP1, hK1, hD1⟩ := hB
  rw [ht] at hP1
  obtain ⟨hP, hD⟩ := va_join (wr := (ML hM aM cM tc' cl' tr' g')) (w1 := (XL hX aX cX tc cl tr g_0)) hP hD [0, 1, 2, 3, 4, 5, 6, 7, 8, 9, 10] [11, 12, 13, 14, 15, 16, 17] rfl rfl (by decide) (by decide) hk1 hFc hP1 hD1
  have hP := hP.sub (ws' := ((XL hX aX cX tc cl tr g_0) ++ (ML hM aM cM tc' cl' tr' g'))) [7, 8, 9, 10, 11, 12, 13, 14, 15, 16, 17, 0, 1, 2, 3, 4, 5, 6] rfl
  have hD := hD.sub (ws' := ((XL hX aX cX tc cl tr g_0) ++ (ML hM aM cM tc' cl' tr' g'))) [7, 8, 9, 10, 11, 12, 13, 14, 15, 16, 17, 0, 1, 2, 3, 4, 5, 6] (by decide) rfl
  clear hP1 hK1 hD1 hFc hk1 hz1 hvm ht hPc hDc
  generalize H1 = H at hP hS ⊢
  try dsimp only at hw
  refine lv_aload_n hx hb dL_law_580 rfl (lv_at hl 2 rfl) ?_
  refine lv_aload_n hx hb dL_law_581 rfl (lv_at hl 0 rfl) ?_
  refine lv_iload_n hx hb dL_law_582 rfl (lv_at hl 3 rfl) ?_
  refine lv_iconst (v := 1) hx hb dL_law_583 (by decide) ?_
  refine lv_iadd hx hb dL_law_584 ?_
  refine va_sld hx hb hSc hbl hbA hS hi1 dL_law_585 ?_
  refine lv_aload_n hx hb dL_law_586 rfl (lv_at hl 0 rfl) ?_
  refine lv_iload_n hx hb dL_law_587 rfl (lv_at hl 3 rfl) ?_
  refine lv_iconst (v := 2) hx hb dL_law_588 (by decide) ?_
  refine lv_iadd hx hb dL_law_589 ?_
  refine va_sld hx hb hSc hbl hbA hS hi2 dL_law_590 ?_
  have hPc := hP.sub (ws' := (ML hM aM cM tc' cl' tr' g')) [11, 12, 13, 14, 15, 16, 17] rfl
  refine vp_callSi (W.runV (As := [.int (xs (x3 + 1).toNatClampNeg), .int (xs (x3 + 2).toNatClampNeg)]) (rest := [.int r0]) ⟨hx, hb, hml, hown, hts⟩ (cM_even l dC dI hM aM cM tc' cl' tr' g' (xs (x3 + 1).toNatClampNeg) (xs (x3 + 2).toNatClampNeg) _ hw) (cwV 2 hts gL_law_X1_even rfl rfl rfl (by decide +kernel) ⟨Nat.le_of_ble_eq_true rfl, Nat.le_of_ble_eq_true rfl⟩) ⟨fun a U g mk q => by obtain ⟨q0, qP, qK⟩ := q; exact ⟨q0, qP, va_K.moved (u := U) (U := U.calling g mk a) (Vm.Alike.refl U.vm) qK⟩, va_recv hKM hPc (ci := 1) (q0 := 0) rfl rfl, fun U hU hW => ⟨rfl, by rw [hU]; exact hPc, va_K.moved hW.alike hKM⟩⟩ rfl rfl hl.1 rfl (lv_room (Nat.le_of_ble_eq_true rfl)) dL_law_591 ⟨Nat.le_of_ble_eq_true rfl, Nat.le_of_ble_eq_true rfl⟩) (fun r1 hw => ?_)
  try dsimp only at hw
  clear hPc
  refine lv_icmp_eq (tgt := 867) hx hb dL_law_594 (by decide) (fun hc => ?_) (fun hc => ?_)
  · exact hnext H locs ls tc cl tr g_0 tc' cl' tr' g' hw.2 hP hD hS hl
  · exact absurd hw.1 hc
set_option maxHeartbeats 4000000 in
set_option maxRecDepth 100000 in
theorem law_fillings {p : Program} {l : Launch} {e : Env} {s : State} {m : MethodId} {below : List Frame} {meth : Method} {c : Code} {dC : Nat → ClassId} {dI : Nat → Nat → Nat} {b L : Nat} {xs : Nat → Int32} {hX hM : Nat} {aX aM : Nat → Nat} {cX cM : Nat → ClassId} (Rel : Int32 → Int32 → Int64 → Sg → Int32 → Int32 → Int64 → Sg → Prop) (St_fillings : Step_fillings Rel) (C0 : lw_At p s m meth c b L xs) (hK : va_K (dC, dI) vwCl (XT cX ++ MT cM) s) (x3 : Int32) (hi1 : vp_in (x3 + 1) L) (hi2 : vp_in (x3 + 2) L) (hi3 : vp_in (x3 + 3) L) (hi4 : vp_in (x3 + 4) L) (hnext : ∀ (H : Heap) (locs : List Loc) (ls : Array Slot) (tc cl : Int32) (tr : Int64) (g : Sg) (tc' cl' : Int32) (tr' : Int64) (g' : Sg), Rel tc cl tr g tc' cl' tr' g' → va_P (dC, dI) vwCl ((XL hX aX cX tc cl tr g) ++ (ML hM aM cM tc' cl' tr' g')) H → va_D (fun q : Nat => s.heap.size ≤ q) ((XL hX aX cX tc cl tr g) ++ (ML hM aM cM tc' cl' tr' g')) → va_S (fun q : Nat => s.heap.size ≤ q) s.heap H locs → lv_has ls 4 [(0, .ref b), (1, .ref hX), (2, .ref hM), (3, .int x3)] → W p l e room_1 s m #[Value.ref b] below meth c H locs 18 1461 (lw_Z below #[Value.ref b] s) (F0 m 867 ls [])) : ∀ (H : Heap) (locs : List Loc) (ls : Array Slot) (tc cl : Int32) (tr : Int64) (g : Sg) (tc' cl' : Int32) (tr' : Int64) (g' : Sg), Rel tc cl tr g tc' cl' tr' g' → va_P (dC, dI) vwCl ((XL hX aX cX tc cl tr g) ++ (ML hM aM cM tc' cl' tr' g')) H → va_D (fun q : Nat => s.heap.size ≤ q) ((XL hX aX cX tc cl tr g) ++ (ML hM aM cM tc' cl' tr' g')) → va_S (fun q : Nat => s.heap.size ≤ q) s.heap H locs → lv_has ls 4 [(0, .ref b), (1, .ref hX), (2, .ref hM), (3, .int x3)] → W p l e room_1 s m #[Value.ref b] below meth c H locs 18 1461 (lw_Z below #[Value.ref b] s) (F0 m 599 ls []) := by
  obtain ⟨hx, hb, hr, hml, hown, hts, hSc, hbl, hlocks, hgv⟩ := C0
  have hts := fun w h => hts w (wsL_law_in w h)
  have hown : s.vm.findClass RL = some m.cls := hown
  have hb : c.code = cL_law := hb
  have hA : ∀ q : Nat, s.heap.size ≤ q → (fun q : Nat => s.heap.size ≤ q) q := fun _ h => h
  have hbA : ¬ (fun q : Nat => s.heap.size ≤ q) b := Nat.not_le.mpr hbl
  have hKX := hK.sub (tys' := XT cX) [0, 1, 2, 3, 4, 5, 6, 7, 8, 9] rfl
  have hKM := hK.sub (tys' := MT cM) [10, 11, 12, 13, 14, 15] rfl
  intro H locs ls tc cl tr g tc' cl' tr' g' hRel hP hD hS hl
  have hw := St_fillings tc cl tr g tc' cl' tr' g' (xs (x3 + 1).toNatClampNeg) hRel
  refine lv_aload_n hx hb dL_law_599 rfl (lv_at hl 1 rfl) ?_
  refine lv_aload_n hx hb dL_law_600 rfl (lv_at hl 0 rfl) ?_
  refine lv_iload_n hx hb dL_law_601 rfl (lv_at hl 3 rfl) ?_
  refine lv_iconst (v := 1) hx hb dL_law_602 (by decide) ?_
  refine lv_iadd hx hb dL_law_603 ?_
  refine va_sld hx hb hSc hbl hbA hS hi1 dL_law_604 ?_
  have hPc := hP.sub (ws' := (XL hX aX cX tc cl tr g)) [0, 1, 2, 3, 4, 5, 6, 7, 8, 9, 10] rfl
  have hDc := hD.sub (ws' := (XL hX aX cX tc cl tr g)) [0, 1, 2, 3, 4, 5, 6, 7, 8, 9, 10] (by decide) rfl
  have hFc := va_free (wc := (XL hX aX cX tc cl tr g)) hD hS hA [0, 1, 2, 3, 4, 5, 6, 7, 8, 9, 10] rfl
  refine va_calli (va_runV (As := [.int (xs (x3 + 1).toNatClampNeg)]) (rest := []) ⟨hx, hb, hml, hown, hts⟩ (cX_fillings l dC dI hX aX cX H.size tc cl tr g (xs (x3 + 1).toNatClampNeg) _ hw) (cwV 1 hts gL_law_X0_fillings rfl rfl rfl (by decide +kernel) ⟨Nat.le_of_ble_eq_true rfl, Nat.le_of_ble_eq_true rfl⟩) ⟨fun a U g mk q => by obtain ⟨q0, q1, qP, qK, qD⟩ := q; exact ⟨q0, q1, qP, va_K.moved (u := U) (U := U.calling g mk a) (Vm.Alike.refl U.vm) qK, qD⟩, va_recv hKX hPc (ci := 0) (q0 := 0) rfl rfl, fun U hU hW => ⟨rfl, by rw [hU], by rw [hU]; exact hPc, va_K.moved hW.alike hKX, hDc.weaken (fun _ _ _ _ => trivial)⟩⟩ rfl rfl hl.1 rfl (lv_room (Nat.le_of_ble_eq_true rfl)) dL_law_605 ⟨Nat.le_of_ble_eq_true rfl, Nat.le_of_ble_eq_true rfl⟩) hS (fun q _ h => hFc q h) hFc (fun r0 g_0 t H1 locs ht hvm hw hB hz1 hk1 hS => ?_)
  obtain ⟨hP1, hK1, hD1⟩ := hB
  rw [ht] at hP1
  obtain ⟨hP, hD⟩ := va_join (wr := (ML hM aM cM tc' cl' tr' g')) (w1 := (XL hX aX cX tc cl tr g_0)) hP hD [0, 1, 2, 3, 4, 5, 6, 7, 8, 9, 10] [11, 12, 13, 14, 15, 16, 17] rfl rfl (by decide) (by decide) hk1 hFc hP1 hD1
  have hP := hP.sub (ws' := ((XL hX aX cX tc cl tr g_0) ++ (ML hM aM cM tc' cl' tr' g'))) [7, 8, 9, 10, 11, 12, 13, 14, 15, 16, 17, 0, 1, 2, 3, 4, 5, 6] rfl
  have hD := hD.sub (ws' := ((XL hX aX cX tc cl tr g_0) ++ (ML hM aM cM tc' cl' tr' g'))) [7, 8, 9, 10, 11, 12, 13, 14, 15, 16, 17, 0, 1, 2, 3, 4, 5, 6] (by decide) rfl
  clear hP1 hK1 hD1 hFc hk1 hz1 hvm ht hPc hDc
  generalize H1 = H at hP hS ⊢
  try dsimp only at hw
  refine lv_aload_n hx hb dL_law_608 rfl (lv_at hl 2 rfl) ?_
  refine lv_aload_n hx hb dL_law_609 rfl (lv_at hl 0 rfl) ?_
  refine lv_iload_n hx hb dL_law_610 rfl (lv_at hl 3 rfl) ?_
  refine lv_iconst (v := 1) hx hb dL_law_611 (by decide) ?_
  refine lv_iadd hx hb dL_law_612 ?_
  refine va_sld hx hb hSc hbl hbA hS hi1 dL_law_613 ?_
  have hPc := hP.sub (ws' := (ML hM aM cM tc' cl' tr' g')) [11, 12, 13, 14, 15, 16, 17] rfl
  have hDc := hD.sub (ws' := (ML hM aM cM tc' cl' tr' g')) [11, 12, 13, 14, 15, 16, 17] (by decide) rfl
  have hFc := va_free (wc := (ML hM aM cM tc' cl' tr' g')) hD hS hA [11, 12, 13, 14, 15, 16, 17] rfl
  refine va_calli (va_runV (As := [.int (xs (x3 + 1).toNatClampNeg)]) (rest := [.int r0]) ⟨hx, hb, hml, hown, hts⟩ (cM_fillings l dC dI hM aM cM H.size tc' cl' tr' g' (xs (x3 + 1).toNatClampNeg) _ hw) (cwV 1 hts gL_law_X1_fillings rfl rfl rfl (by decide +kernel) ⟨Nat.le_of_ble_eq_true rfl, Nat.le_of_ble_eq_true rfl⟩) ⟨fun a U g mk q => by obtain ⟨q0, q1, qP, qK, qD⟩ := q; exact ⟨q0, q1, qP, va_K.moved (u := U) (U := U.calling g mk a) (Vm.Alike.refl U.vm) qK, qD⟩, va_recv hKM hPc (ci := 1) (q0 := 0) rfl rfl, fun U hU hW => ⟨rfl, by rw [hU], by rw [hU]; exact hPc, va_K.moved hW.alike hKM, hDc.weaken (fun _ _ _ _ => trivial)⟩⟩ rfl rfl hl.1 rfl (lv_room (Nat.le_of_ble_eq_true rfl)) dL_law_614 ⟨Nat.le_of_ble_eq_true rfl, Nat.le_of_ble_eq_true rfl⟩) hS (fun q _ h => hFc q h) hFc (fun r1 g_1 t H1 locs ht hvm hw hB hz1 hk1 hS => ?_)
  obtain ⟨hP1, hK1, hD1⟩ := hB
  rw [ht] at hP1
  obtain ⟨hP, hD⟩ := va_join (wr := (XL hX aX cX tc cl tr g_0)) (w1 := (ML hM aM cM tc' cl' tr' g_1)) hP hD [11, 12, 13, 14, 15, 16, 17] [0, 1, 2, 3, 4, 5, 6, 7, 8, 9, 10] rfl rfl (by decide) (by decide) hk1 hFc hP1 hD1
  clear hP1 hK1 hD1 hFc hk1 hz1 hvm ht hPc hDc
  generalize H1 = H at hP hS ⊢
  try dsimp only at hw
  refine lv_icmp_eq (tgt := 867) hx hb dL_law_617 (by decide) (fun hc => ?_) (fun hc => ?_)
  · exact hnext H locs ls tc cl tr g_0 tc' cl' tr' g_1 hw.2 hP hD hS hl
  · exact absurd hw.1 hc
set_option maxHeartbeats 4000000 in
set_option maxRecDepth 100000 in
theorem law_bend {p : Program} {l : Launch} {e : Env} {s : State} {m : MethodId} {below : List Frame} {meth : Method} {c : Code} {dC : Nat → ClassId} {dI : Nat → Nat → Nat} {b L : Nat} {xs : Nat → Int32} {hX hM : Nat} {aX aM : Nat → Nat} {cX cM : Nat → ClassId} (Rel : Int32 → Int32 → Int64 → Sg → Int32 → Int32 → Int64 → Sg → Prop) (St_bend : Step_bend Rel) (C0 : lw_At p s m meth c b L xs) (hK : va_K (dC, dI) vwCl (XT cX ++ MT cM) s) (x3 : Int32) (hi1 : vp_in (x3 + 1) L) (hi2 : vp_in (x3 + 2) L) (hi3 : vp_in (x3 + 3) L) (hi4 : vp_in (x3 + 4) L) (hnext : ∀ (H : Heap) (locs : List Loc) (ls : Array Slot) (tc cl : Int32) (tr : Int64) (g : Sg) (tc' cl' : Int32) (tr' : Int64) (g' : Sg), Rel tc cl tr g tc' cl' tr' g' → va_P (dC, dI) vwCl ((XL hX aX cX tc cl tr g) ++ (ML hM aM cM tc' cl' tr' g')) H → va_D (fun q : Nat => s.heap.size ≤ q) ((XL hX aX cX tc cl tr g) ++ (ML hM aM cM tc' cl' tr' g')) → va_S (fun q : Nat => s.heap.size ≤ q) s.heap H locs → lv_has ls 4 [(0, .ref b), (1, .ref hX), (2, .ref hM), (3, .int x3)] → W p l e room_1 s m #[Value.ref b] below meth c H locs 18 1461 (lw_Z below #[Value.ref b] s) (F0 m 867 ls [])) : ∀ (H : Heap) (locs : List Loc) (ls : Array Slot) (tc cl : Int32) (tr : Int64) (g : Sg) (tc' cl' : Int32) (tr' : Int64) (g' : Sg), Rel tc cl tr g tc' cl' tr' g' → va_P (dC, dI) vwCl ((XL hX aX cX tc cl tr g) ++ (ML hM aM cM tc' cl' tr' g')) H → va_D (fun q : Nat => s.heap.size ≤ q) ((XL hX aX cX tc cl tr g) ++ (ML hM aM cM tc' cl' tr' g')) → va_S (fun q : Nat => s.heap.size ≤ q) s.heap H locs → lv_has ls 4 [(0, .ref b), (1, .ref hX), (2, .ref hM), (3, .int x3)] → W p l e room_1 s m #[Value.ref b] below meth c H locs 18 1461 (lw_Z below #[Value.ref b] s) (F0 m 622 ls []) := by
  obtain ⟨hx, hb, hr, hml, hown, hts, hSc, hbl, hlocks, hgv⟩ := C0
  have hts := fun w h => hts w (wsL_law_in w h)
  have hown : s.vm.findClass RL = some m.cls := hown
  have hb : c.code = cL_law := hb
  have hA : ∀ q : Nat, s.heap.size ≤ q → (fun q : Nat => s.heap.size ≤ q) q := fun _ h => h
  have hbA : ¬ (fun q : Nat => s.heap.size ≤ q) b := Nat.not_le.mpr hbl
  have hKX := hK.sub (tys' := XT cX) [0, 1, 2, 3, 4, 5, 6, 7, 8, 9] rfl
  have hKM := hK.sub (tys' := MT cM) [10, 11, 12, 13, 14, 15] rfl
  intro H locs ls tc cl tr g tc' cl' tr' g' hRel hP hD hS hl
  have hw := St_bend tc cl tr g tc' cl' tr' g' (xs (x3 + 1).toNatClampNeg) (xs (x3 + 2).toNatClampNeg) (xs (x3 + 3).toNatClampNeg) hRel
  refine lv_aload_n hx hb dL_law_622 rfl (lv_at hl 1 rfl) ?_
  refine lv_aload_n hx hb dL_law_623 rfl (lv_at hl 0 rfl) ?_
  refine lv_iload_n hx hb dL_law_624 rfl (lv_at hl 3 rfl) ?_
  refine lv_iconst (v := 1) hx hb dL_law_625 (by decide) ?_
  refine lv_iadd hx hb dL_law_626 ?_
  refine va_sld hx hb hSc hbl hbA hS hi1 dL_law_627 ?_
  refine lv_aload_n hx hb dL_law_628 rfl (lv_at hl 0 rfl) ?_
  refine lv_iload_n hx hb dL_law_629 rfl (lv_at hl 3 rfl) ?_
  refine lv_iconst (v := 2) hx hb dL_law_630 (by decide) ?_
  refine lv_iadd hx hb dL_law_631 ?_
  refine va_sld hx hb hSc hbl hbA hS hi2 dL_law_632 ?_
  refine lv_aload_n hx hb dL_law_633 rfl (lv_at hl 0 rfl) ?_
  refine lv_iload_n hx hb dL_law_634 rfl (lv_at hl 3 rfl) ?_
  refine lv_iconst (v := 3) hx hb dL_law_635 (by decide) ?_
  refine lv_iadd hx hb dL_law_636 ?_
  refine va_sld hx hb hSc hbl hbA hS hi3 dL_law_637 ?_
  have hPc := hP.sub (ws' := (XL hX aX cX tc cl tr g)) [0, 1, 2, 3, 4, 5, 6, 7, 8, 9, 10] rfl
  have hDc := hD.sub (ws' := (XL hX aX cX tc cl tr g)) [0, 1, 2, 3, 4, 5, 6, 7, 8, 9, 10] (by decide) rfl
  have hFc := va_free (wc := (XL hX aX cX tc cl tr g)) hD hS hA [0, 1, 2, 3, 4, 5, 6, 7, 8, 9, 10] rfl
  refine va_calli (va_runV (As := [.int (xs (x3 + 1).toNatClampNeg), .int (xs (x3 + 2).toNatClampNeg), .int (xs (x3 + 3).toNatClampNeg)]) (rest := []) ⟨hx, hb, hml, hown, hts⟩ (cX_bend l dC dI hX aX cX H.size tc cl tr g (xs (x3 + 1).toNatClampNeg) (xs (x3 + 2).toNatClampNeg) (xs (x3 + 3).toNatClampNeg) _ hw) (cwV 3 hts gL_law_X0_bend rfl rfl rfl (by decide +kernel) ⟨Nat.le_of_ble_eq_true rfl, Nat.le_of_ble_eq_true rfl⟩) ⟨fun a U g mk q => by obtain ⟨q0, q1, qP, qK, qD⟩ := q; exact ⟨q0, q1, qP, va_K.moved (u := U) (U := U.calling g mk a) (Vm.Alike.refl U.vm) qK, qD⟩, va_recv hKX hPc (ci := 0) (q0 := 0) rfl rfl, fun U hU hW => ⟨rfl, by rw [hU], by rw [hU]; exact hPc, va_K.moved hW.alike hKX, hDc.weaken (fun _ _ _ _ => trivial)⟩⟩ rfl rfl hl.1 rfl (lv_room (Nat.le_of_ble_eq_true rfl)) dL_law_638 ⟨Nat.le_of_ble_eq_true rfl, Nat.le_of_ble_eq_true rfl⟩) hS (fun q _ h => hFc q h) hFc (fun r0 g_0 t H1 locs ht hvm hw hB hz1 hk1 hS => ?_)
  obtain ⟨hP1, hK1, hD1⟩ := hB
  rw [ht] at hP1
  obtain ⟨hP, hD⟩ := va_join (wr := (ML hM aM cM tc' cl' tr' g')) (w1 := (XL hX aX cX tc cl tr g_0)) hP hD [0, 1, 2, 3, 4, 5, 6, 7, 8, 9, 10] [11, 12, 13, 14, 15, 16, 17] rfl rfl (by decide) (by decide) hk1 hFc hP1 hD1
  have hP := hP.sub (ws' := ((XL hX aX cX tc cl tr g_0) ++ (ML hM aM cM tc' cl' tr' g'))) [7, 8, 9, 10, 11, 12, 13, 14, 15, 16, 17, 0, 1, 2, 3, 4, 5, 6] rfl
  have hD := hD.sub (ws' := ((XL hX aX cX tc cl tr g_0) ++ (ML hM aM cM tc' cl' tr' g'))) [7, 8, 9, 10, 11, 12, 13, 14, 15, 16, 17, 0, 1, 2, 3, 4, 5, 6] (by decide) rfl
  clear hP1 hK1 hD1 hFc hk1 hz1 hvm ht hPc hDc
  generalize H1 = H at hP hS ⊢
  try dsimp only at hw
  refine lv_aload_n hx hb dL_law_641 rfl (lv_at hl 2 rfl) ?_
  refine lv_aload_n hx hb dL_law_642 rfl (lv_at hl 0 rfl) ?_
  refine lv_iload_n hx hb dL_law_643 rfl (lv_at hl 3 rfl) ?_
  refine lv_iconst (v := 1) hx hb dL_law_644 (by decide) ?_
  refine lv_iadd hx hb dL_law_645 ?_
  refine va_sld hx hb hSc hbl hbA hS hi1 dL_law_646 ?_
  refine lv_aload_n hx hb dL_law_647 rfl (lv_at hl 0 rfl) ?_
  refine lv_iload_n hx hb dL_law_648 rfl (lv_at hl 3 rfl) ?_
  refine lv_iconst (v := 2) hx hb dL_law_649 (by decide) ?_
  refine lv_iadd hx hb dL_law_650 ?_
  refine va_sld hx hb hSc hbl hbA hS hi2 dL_law_651 ?_
  refine lv_aload_n hx hb dL_law_652 rfl (lv_at hl 0 rfl) ?_
  refine lv_iload_n hx hb dL_law_653 rfl (lv_at hl 3 rfl) ?_
  refine lv_iconst (v := 3) hx hb dL_law_654 (by decide) ?_
  refine lv_iadd hx hb dL_law_655 ?_
  refine va_sld hx hb hSc hbl hbA hS hi3 dL_law_656 ?_
  have hPc := hP.sub (ws' := (ML hM aM cM tc' cl' tr' g')) [11, 12, 13, 14, 15, 16, 17] rfl
  have hDc := hD.sub (ws' := (ML hM aM cM tc' cl' tr' g')) [11, 12, 13, 14, 15, 16, 17] (by decide) rfl
  have hFc := va_free (wc := (ML hM aM cM tc' cl' tr' g')) hD hS hA [11, 12, 13, 14, 15, 16, 17] rfl
  refine va_calli (va_runV (As := [.int (xs (x3 + 1).toNatClampNeg), .int (xs (x3 + 2).toNatClampNeg), .int (xs (x3 + 3).toNatClampNeg)]) (rest := [.int r0]) ⟨hx, hb, hml, hown, hts⟩ (cM_bend l dC dI hM aM cM H.size tc' cl' tr' g' (xs (x3 + 1).toNatClampNeg) (xs (x3 + 2).toNatClampNeg) (xs (x3 + 3).toNatClampNeg) _ hw) (cwV 3 hts gL_law_X1_bend rfl rfl rfl (by decide +kernel) ⟨Nat.le_of_ble_eq_true rfl, Nat.le_of_ble_eq_true rfl⟩) ⟨fun a U g mk q => by obtain ⟨q0, q1, qP, qK, qD⟩ := q; exact ⟨q0, q1, qP, va_K.moved (u := U) (U := U.calling g mk a) (Vm.Alike.refl U.vm) qK, qD⟩, va_recv hKM hPc (ci := 1) (q0 := 0) rfl rfl, fun U hU hW => ⟨rfl, by rw [hU], by rw [hU]; exact hPc, va_K.moved hW.alike hKM, hDc.weaken (fun _ _ _ _ => trivial)⟩⟩ rfl rfl hl.1 rfl (lv_room (Nat.le_of_ble_eq_true rfl)) dL_law_657 ⟨Nat.le_of_ble_eq_true rfl, Nat.le_of_ble_eq_true rfl⟩) hS (fun q _ h => hFc q h) hFc (fun r1 g_1 t H1 locs ht hvm hw hB hz1 hk1 hS => ?_)
  obtain ⟨hP1, hK1, hD1⟩ := hB
  rw [ht] at hP1
  obtain ⟨hP, hD⟩ := va_join (wr := (XL hX aX cX tc cl tr g_0)) (w1 := (ML hM aM cM tc' cl' tr' g_1)) hP hD [11, 12, 13, 14, 15, 16, 17] [0, 1, 2, 3, 4, 5, 6, 7, 8, 9, 10] rfl rfl (by decide) (by decide) hk1 hFc hP1 hD1
  clear hP1 hK1 hD1 hFc hk1 hz1 hvm ht hPc hDc
  generalize H1 = H at hP hS ⊢
  try dsimp only at hw
  refine lv_icmp_eq (tgt := 867) hx hb dL_law_660 (by decide) (fun hc => ?_) (fun hc => ?_)
  · exact hnext H locs ls tc cl tr g_0 tc' cl' tr' g_1 hw.2 hP hD hS hl
  · exact absurd hw.1 hc
set_option maxHeartbeats 4000000 in
set_option maxRecDepth 100000 in
theorem law_round {p : Program} {l : Launch} {e : Env} {s : State} {m : MethodId} {below : List Frame} {meth : Method} {c : Code} {dC : Nat → ClassId} {dI : Nat → Nat → Nat} {b L : Nat} {xs : Nat → Int32} {hX hM : Nat} {aX aM : Nat → Nat} {cX cM : Nat → ClassId} (Rel : Int32 → Int32 → Int64 → Sg → Int32 → Int32 → Int64 → Sg → Prop) (St_round : Step_round Rel) (C0 : lw_At p s m meth c b L xs) (hK : va_K (dC, dI) vwCl (XT cX ++ MT cM) s) (x3 : Int32) (hi1 : vp_in (x3 + 1) L) (hi2 : vp_in (x3 + 2) L) (hi3 : vp_in (x3 + 3) L) (hi4 : vp_in (x3 + 4) L) (hnext : ∀ (H : Heap) (locs : List Loc) (ls : Array Slot) (tc cl : Int32) (tr : Int64) (g : Sg) (tc' cl' : Int32) (tr' : Int64) (g' : Sg), Rel tc cl tr g tc' cl' tr' g' → va_P (dC, dI) vwCl ((XL hX aX cX tc cl tr g) ++ (ML hM aM cM tc' cl' tr' g')) H → va_D (fun q : Nat => s.heap.size ≤ q) ((XL hX aX cX tc cl tr g) ++ (ML hM aM cM tc' cl' tr' g')) → va_S (fun q : Nat => s.heap.size ≤ q) s.heap H locs → lv_has ls 4 [(0, .ref b), (1, .ref hX), (2, .ref hM), (3, .int x3)] → W p l e room_1 s m #[Value.ref b] below meth c H locs 18 1461 (lw_Z below #[Value.ref b] s) (F0 m 867 ls [])) : ∀ (H : Heap) (locs : List Loc) (ls : Array Slot) (tc cl : Int32) (tr : Int64) (g : Sg) (tc' cl' : Int32) (tr' : Int64) (g' : Sg), Rel tc cl tr g tc' cl' tr' g' → va_P (dC, dI) vwCl ((XL hX aX cX tc cl tr g) ++ (ML hM aM cM tc' cl' tr' g')) H → va_D (fun q : Nat => s.heap.size ≤ q) ((XL hX aX cX tc cl tr g) ++ (ML hM aM cM tc' cl' tr' g')) → va_S (fun q : Nat => s.heap.size ≤ q) s.heap H locs → lv_has ls 4 [(0, .ref b), (1, .ref hX), (2, .ref hM), (3, .int x3)] → W p l e room_1 s m #[Value.ref b] below meth c H locs 18 1461 (lw_Z below #[Value.ref b] s) (F0 m 665 ls []) := by
  obtain ⟨hx, hb, hr, hml, hown, hts, hSc, hbl, hlocks, hgv⟩ := C0
  have hts := fun w h => hts w (wsL_law_in w h)
  have hown : s.vm.findClass RL = some m.cls := hown
  have hb : c.code = cL_law := hb
  have hA : ∀ q : Nat, s.heap.size ≤ q → (fun q : Nat => s.heap.size ≤ q) q := fun _ h => h
  have hbA : ¬ (fun q : Nat => s.heap.size ≤ q) b := Nat.not_le.mpr hbl
  have hKX := hK.sub (tys' := XT cX) [0, 1, 2, 3, 4, 5, 6, 7, 8, 9] rfl
  have hKM := hK.sub (tys' := MT cM) [10, 11, 12, 13, 14, 15] rfl
  intro H locs ls tc cl tr g tc' cl' tr' g' hRel hP hD hS hl
  have hw := St_round tc cl tr g tc' cl' tr' g' (xs (x3 + 1).toNatClampNeg) (xs (x3 + 2).toNatClampNeg) (xs (x3 + 3).toNatClampNeg) hRel
  refine lv_aload_n hx hb dL_law_665 rfl (lv_at hl 1 rfl) ?_
  refine lv_aload_n hx hb dL_law_666 rfl (lv_at hl 0 rfl) ?_
  refine lv_iload_n hx hb dL_law_667 rfl (lv_at hl 3 rfl) ?_
  refine lv_iconst (v := 1) hx hb dL_law_668 (by decide) ?_
  refine lv_iadd hx hb dL_law_669 ?_
  refine va_sld hx hb hSc hbl hbA hS hi1 dL_law_670 ?_
  refine lv_aload_n hx hb dL_law_671 rfl (lv_at hl 0 rfl) ?_
  refine lv_iload_n hx hb dL_law_672 rfl (lv_at hl 3 rfl) ?_
  refine lv_iconst (v := 2) hx hb dL_law_673 (by decide) ?_
  refine lv_iadd hx hb dL_law_674 ?_
  refine va_sld hx hb hSc hbl hbA hS hi2 dL_law_675 ?_
  refine lv_aload_n hx hb dL_law_676 rfl (lv_at hl 0 rfl) ?_
  refine lv_iload_n hx hb dL_law_677 rfl (lv_at hl 3 rfl) ?_
  refine lv_iconst (v := 3) hx hb dL_law_678 (by decide) ?_
  refine lv_iadd hx hb dL_law_679 ?_
  refine va_sld hx hb hSc hbl hbA hS hi3 dL_law_680 ?_
  have hPc := hP.sub (ws' := (XL hX aX cX tc cl tr g)) [0, 1, 2, 3, 4, 5, 6, 7, 8, 9, 10] rfl
  have hDc := hD.sub (ws' := (XL hX aX cX tc cl tr g)) [0, 1, 2, 3, 4, 5, 6, 7, 8, 9, 10] (by decide) rfl
  have hFc := va_free (wc := (XL hX aX cX tc cl tr g)) hD hS hA [0, 1, 2, 3, 4, 5, 6, 7, 8, 9, 10] rfl
  refine va_calli (va_runV (As := [.int (xs (x3 + 1).toNatClampNeg), .int (xs (x3 + 2).toNatClampNeg), .int (xs (x3 + 3).toNatClampNeg)]) (rest := []) ⟨hx, hb, hml, hown, hts⟩ (cX_round l dC dI hX aX cX H.size tc cl tr g (xs (x3 + 1).toNatClampNeg) (xs (x3 + 2).toNatClampNeg) (xs (x3 + 3).toNatClampNeg) _ hw) (cwV 3 hts gL_law_X0_round rfl rfl rfl (by decide +kernel) ⟨Nat.le_of_ble_eq_true rfl, Nat.le_of_ble_eq_true rfl⟩) ⟨fun a U g mk q => by obtain ⟨q0, q1, qP, qK, qD⟩ := q; exact ⟨q0, q1, qP, va_K.moved (u := U) (U := U.calling g mk a) (Vm.Alike.refl U.vm) qK, qD⟩, va_recv hKX hPc (ci := 0) (q0 := 0) rfl rfl, fun U hU hW => ⟨rfl, by rw [hU], by rw [hU]; exact hPc, va_K.moved hW.alike hKX, hDc.weaken (fun _ _ _ _ => trivial)⟩⟩ rfl rfl hl.1 rfl (lv_room (Nat.le_of_ble_eq_true rfl)) dL_law_681 ⟨Nat.le_of_ble_eq_true rfl, Nat.le_of_ble_eq_true rfl⟩) hS (fun q _ h => hFc q h) hFc (fun r0 g_0 t H1 locs ht hvm hw hB hz1 hk1 hS => ?_)
  obtain ⟨hP1, hK1, hD1⟩ := hB
  rw [ht] at hP1
  obtain ⟨hP, hD⟩ := va_join (wr := (ML hM aM cM tc' cl' tr' g')) (w1 := (XL hX aX cX tc cl tr g_0)) hP hD [0, 1, 2, 3, 4, 5, 6, 7, 8, 9, 10] [11, 12, 13, 14, 15, 16, 17] rfl rfl (by decide) (by decide) hk1 hFc hP1 hD1
  have hP := hP.sub (ws' := ((XL hX aX cX tc cl tr g_0) ++ (ML hM aM cM tc' cl' tr' g'))) [7, 8, 9, 10, 11, 12, 13, 14, 15, 16, 17, 0, 1, 2, 3, 4, 5, 6] rfl
  have hD := hD.sub (ws' := ((XL hX aX cX tc cl tr g_0) ++ (ML hM aM cM tc' cl' tr' g'))) [7, 8, 9, 10, 11, 12, 13, 14, 15, 16, 17, 0, 1, 2, 3, 4, 5, 6] (by decide) rfl
  clear hP1 hK1 hD1 hFc hk1 hz1 hvm ht hPc hDc
  generalize H1 = H at hP hS ⊢
  try dsimp only at hw
  refine lv_aload_n hx hb dL_law_684 rfl (lv_at hl 2 rfl) ?_
  refine lv_aload_n hx hb dL_law_685 rfl (lv_at hl 0 rfl) ?_
  refine lv_iload_n hx hb dL_law_686 rfl (lv_at hl 3 rfl) ?_
  refine lv_iconst (v := 1) hx hb dL_law_687 (by decide) ?_
  refine lv_iadd hx hb dL_law_688 ?_
  refine va_sld hx hb hSc hbl hbA hS hi1 dL_law_689 ?_
  refine lv_aload_n hx hb dL_law_690 rfl (lv_at hl 0 rfl) ?_
  refine lv_iload_n hx hb dL_law_691 rfl (lv_at hl 3 rfl) ?_
  refine lv_iconst (v := 2) hx hb dL_law_692 (by decide) ?_
  refine lv_iadd hx hb dL_law_693 ?_
  refine va_sld hx hb hSc hbl hbA hS hi2 dL_law_694 ?_
  refine lv_aload_n hx hb dL_law_695 rfl (lv_at hl 0 rfl) ?_
  refine lv_iload_n hx hb dL_law_696 rfl (lv_at hl 3 rfl) ?_
  refine lv_iconst (v := 3) hx hb dL_law_697 (by decide) ?_
  refine lv_iadd hx hb dL_law_698 ?_
  refine va_sld hx hb hSc hbl hbA hS hi3 dL_law_699 ?_
  have hPc := hP.sub (ws' := (ML hM aM cM tc' cl' tr' g')) [11, 12, 13, 14, 15, 16, 17] rfl
  have hDc := hD.sub (ws' := (ML hM aM cM tc' cl' tr' g')) [11, 12, 13, 14, 15, 16, 17] (by decide) rfl
  have hFc := va_free (wc := (ML hM aM cM tc' cl' tr' g')) hD hS hA [11, 12, 13, 14, 15, 16, 17] rfl
  refine va_calli (va_runV (As := [.int (xs (x3 + 1).toNatClampNeg), .int (xs (x3 + 2).toNatClampNeg), .int (xs (x3 + 3).toNatClampNeg)]) (rest := [.int r0]) ⟨hx, hb, hml, hown, hts⟩ (cM_round l dC dI hM aM cM H.size tc' cl' tr' g' (xs (x3 + 1).toNatClampNeg) (xs (x3 + 2).toNatClampNeg) (xs (x3 + 3).toNatClampNeg) _ hw) (cwV 3 hts gL_law_X1_round rfl rfl rfl (by decide +kernel) ⟨Nat.le_of_ble_eq_true rfl, Nat.le_of_ble_eq_true rfl⟩) ⟨fun a U g mk q => by obtain ⟨q0, q1, qP, qK, qD⟩ := q; exact ⟨q0, q1, qP, va_K.moved (u := U) (U := U.calling g mk a) (Vm.Alike.refl U.vm) qK, qD⟩, va_recv hKM hPc (ci := 1) (q0 := 0) rfl rfl, fun U hU hW => ⟨rfl, by rw [hU], by rw [hU]; exact hPc, va_K.moved hW.alike hKM, hDc.weaken (fun _ _ _ _ => trivial)⟩⟩ rfl rfl hl.1 rfl (lv_room (Nat.le_of_ble_eq_true rfl)) dL_law_700 ⟨Nat.le_of_ble_eq_true rfl, Nat.le_of_ble_eq_true rfl⟩) hS (fun q _ h => hFc q h) hFc (fun r1 g_1 t H1 locs ht hvm hw hB hz1 hk1 hS => ?_)
  obtain ⟨hP1, hK1, hD1⟩ := hB
  rw [ht] at hP1
  obtain ⟨hP, hD⟩ := va_join (wr := (XL hX aX cX tc cl tr g_0)) (w1 := (ML hM aM cM tc' cl' tr' g_1)) hP hD [11, 12, 13, 14, 15, 16, 17] [0, 1, 2, 3, 4, 5, 6, 7, 8, 9, 10] rfl rfl (by decide) (by decide) hk1 hFc hP1 hD1
  clear hP1 hK1 hD1 hFc hk1 hz1 hvm ht hPc hDc
  generalize H1 = H at hP hS ⊢
  try dsimp only at hw
  refine lv_icmp_eq (tgt := 867) hx hb dL_law_703 (by decide) (fun hc => ?_) (fun hc => ?_)
  · exact hnext H locs ls tc cl tr g_0 tc' cl' tr' g_1 hw.2 hP hD hS hl
  · exact absurd hw.1 hc
set_option maxHeartbeats 4000000 in
set_option maxRecDepth 100000 in
theorem law_period {p : Program} {l : Launch} {e : Env} {s : State} {m : MethodId} {below : List Frame} {meth : Method} {c : Code} {dC : Nat → ClassId} {dI : Nat → Nat → Nat} {b L : Nat} {xs : Nat → Int32} {hX hM : Nat} {aX aM : Nat → Nat} {cX cM : Nat → ClassId} (Rel : Int32 → Int32 → Int64 → Sg → Int32 → Int32 → Int64 → Sg → Prop) (St_period : Step_period Rel) (C0 : lw_At p s m meth c b L xs) (hK : va_K (dC, dI) vwCl (XT cX ++ MT cM) s) (x3 : Int32) (hi1 : vp_in (x3 + 1) L) (hi2 : vp_in (x3 + 2) L) (hi3 : vp_in (x3 + 3) L) (hi4 : vp_in (x3 + 4) L) (hnext : ∀ (H : Heap) (locs : List Loc) (ls : Array Slot) (tc cl : Int32) (tr : Int64) (g : Sg) (tc' cl' : Int32) (tr' : Int64) (g' : Sg), Rel tc cl tr g tc' cl' tr' g' → va_P (dC, dI) vwCl ((XL hX aX cX tc cl tr g) ++ (ML hM aM cM tc' cl' tr' g')) H → va_D (fun q : Nat => s.heap.size ≤ q) ((XL hX aX cX tc cl tr g) ++ (ML hM aM cM tc' cl' tr' g')) → va_S (fun q : Nat => s.heap.size ≤ q) s.heap H locs → lv_has ls 4 [(0, .ref b), (1, .ref hX), (2, .ref hM), (3, .int x3)] → W p l e room_1 s m #[Value.ref b] below meth c H locs 18 1461 (lw_Z below #[Value.ref b] s) (F0 m 867 ls [])) : ∀ (H : Heap) (locs : List Loc) (ls : Array Slot) (tc cl : Int32) (tr : Int64) (g : Sg) (tc' cl' : Int32) (tr' : Int64) (g' : Sg), Rel tc cl tr g tc' cl' tr' g' → va_P (dC, dI) vwCl ((XL hX aX cX tc cl tr g) ++ (ML hM aM cM tc' cl' tr' g')) H → va_D (fun q : Nat => s.heap.size ≤ q) ((XL hX aX cX tc cl tr g) ++ (ML hM aM cM tc' cl' tr' g')) → va_S (fun q : Nat => s.heap.size ≤ q) s.heap H locs → lv_has ls 4 [(0, .ref b), (1, .ref hX), (2, .ref hM), (3, .int x3)] → W p l e room_1 s m #[Value.ref b] below meth c H locs 18 1461 (lw_Z below #[Value.ref b] s) (F0 m 708 ls []) := by
  obtain ⟨hx, hb, hr, hml, hown, hts, hSc, hbl, hlocks, hgv⟩ := C0
  have hts := fun w h => hts w (wsL_law_in w h)
  have hown : s.vm.findClass RL = some m.cls := hown
  have hb : c.code = cL_law := hb
  have hA : ∀ q : Nat, s.heap.size ≤ q → (fun q : Nat => s.heap.size ≤ q) q := fun _ h => h
  have hbA : ¬ (fun q : Nat => s.heap.size ≤ q) b := Nat.not_le.mpr hbl
  have hKX := hK.sub (tys' := XT cX) [0, 1, 2, 3, 4, 5, 6, 7, 8, 9] rfl
  have hKM := hK.sub (tys' := MT cM) [10, 11, 12, 13, 14, 15] rfl
  intro H locs ls tc cl tr g tc' cl' tr' g' hRel hP hD hS hl
  have hw := St_period tc cl tr g tc' cl' tr' g' (xs (x3 + 1).toNatClampNeg) (xs (x3 + 2).toNatClampNeg) (xs (x3 + 3).toNatClampNeg) hRel
  refine lv_aload_n hx hb dL_law_708 rfl (lv_at hl 1 rfl) ?_
  refine lv_aload_n hx hb dL_law_709 rfl (lv_at hl 0 rfl) ?_
  refine lv_iload_n hx hb dL_law_710 rfl (lv_at hl 3 rfl) ?_
  refine lv_iconst (v := 1) hx hb dL_law_711 (by decide) ?_
  refine lv_iadd hx hb dL_law_712 ?_
  refine va_sld hx hb hSc hbl hbA hS hi1 dL_law_713 ?_
  refine lv_aload_n hx hb dL_law_714 rfl (lv_at hl 0 rfl) ?_
  refine lv_iload_n hx hb dL_law_715 rfl (lv_at hl 3 rfl) ?_
  refine lv_iconst (v := 2) hx hb dL_law_716 (by decide) ?_
  refine lv_iadd hx hb dL_law_717 ?_
  refine va_sld hx hb hSc hbl hbA hS hi2 dL_law_718 ?_
  refine lv_aload_n hx hb dL_law_719 rfl (lv_at hl 0 rfl) ?_
  refine lv_iload_n hx hb dL_law_720 rfl (lv_at hl 3 rfl) ?_
  refine lv_iconst (v := 3) hx hb dL_law_721 (by decide) ?_
  refine lv_iadd hx hb dL_law_722 ?_
  refine va_sld hx hb hSc hbl hbA hS hi3 dL_law_723 ?_
  have hPc := hP.sub (ws' := (XL hX aX cX tc cl tr g)) [0, 1, 2, 3, 4, 5, 6, 7, 8, 9, 10] rfl
  have hDc := hD.sub (ws' := (XL hX aX cX tc cl tr g)) [0, 1, 2, 3, 4, 5, 6, 7, 8, 9, 10] (by decide) rfl
  have hFc := va_free (wc := (XL hX aX cX tc cl tr g)) hD hS hA [0, 1, 2, 3, 4, 5, 6, 7, 8, 9, 10] rfl
  refine va_calli (va_runV (As := [.int (xs (x3 + 1).toNatClampNeg), .int (xs (x3 + 2).toNatClampNeg), .int (xs (x3 + 3).toNatClampNeg)]) (rest := []) ⟨hx, hb, hml, hown, hts⟩ (cX_period l dC dI hX aX cX H.size tc cl tr g (xs (x3 + 1).toNatClampNeg) (xs (x3 + 2).toNatClampNeg) (xs (x3 + 3).toNatClampNeg) _ hw) (cwV 3 hts gL_law_X0_period rfl rfl rfl (by decide +kernel) ⟨Nat.le_of_ble_eq_true rfl, Nat.le_of_ble_eq_true rfl⟩) ⟨fun a U g mk q => by obtain ⟨q0, q1, qP, qK, qD⟩ := q; exact ⟨q0, q1, qP, va_K.moved (u := U) (U := U.calling g mk a) (Vm.Alike.refl U.vm) qK, qD⟩, va_recv hKX hPc (ci := 0) (q0 := 0) rfl rfl, fun U hU hW => ⟨rfl, by rw [hU], by rw [hU]; exact hPc, va_K.moved hW.alike hKX, hDc.weaken (fun _ _ _ _ => trivial)⟩⟩ rfl rfl hl.1 rfl (lv_room (Nat.le_of_ble_eq_true rfl)) dL_law_724 ⟨Nat.le_of_ble_eq_true rfl, Nat.le_of_ble_eq_true rfl⟩) hS (fun q _ h => hFc q h) hFc (fun r0 g_0 t H1 locs ht hvm hw hB hz1 hk1 hS => ?_)
  obtain ⟨hP1, hK1, hD1⟩ := hB
  rw [ht] at hP1
  obtain ⟨hP, hD⟩ := va_join (wr := (ML hM aM cM tc' cl' tr' g')) (w1 := (XL hX aX cX tc cl tr g_0)) hP hD [0, 1, 2, 3, 4, 5, 6, 7, 8, 9, 10] [11, 12, 13, 14, 15, 16, 17] rfl rfl (by decide) (by decide) hk1 hFc hP1 hD1
  have hP := hP.sub (ws' := ((XL hX aX cX tc cl tr g_0) ++ (ML hM aM cM tc' cl' tr' g'))) [7, 8, 9, 10, 11, 12, 13, 14, 15, 16, 17, 0, 1, 2, 3, 4, 5, 6] rfl
  have hD := hD.sub (ws' := ((XL hX aX cX tc cl tr g_0) ++ (ML hM aM cM tc' cl' tr' g'))) [7, 8, 9, 10, 11, 12, 13, 14, 15, 16, 17, 0, 1, 2, 3, 4, 5, 6] (by decide) rfl
  clear hP1 hK1 hD1 hFc hk1 hz1 hvm ht hPc hDc
  generalize H1 = H at hP hS ⊢
  try dsimp only at hw
  refine lv_aload_n hx hb dL_law_727 rfl (lv_at hl 2 rfl) ?_
  refine lv_aload_n hx hb dL_law_728 rfl (lv_at hl 0 rfl) ?_
  refine lv_iload_n hx hb dL_law_729 rfl (lv_at hl 3 rfl) ?_
  refine lv_iconst (v := 1) hx hb dL_law_730 (by decide) ?_
  refine lv_iadd hx hb dL_law_731 ?_
  refine va_sld hx hb hSc hbl hbA hS hi1 dL_law_732 ?_
  refine lv_aload_n hx hb dL_law_733 rfl (lv_at hl 0 rfl) ?_
  refine lv_iload_n hx hb dL_law_734 rfl (lv_at hl 3 rfl) ?_
  refine lv_iconst (v := 2) hx hb dL_law_735 (by decide) ?_
  refine lv_iadd hx hb dL_law_736 ?_
  refine va_sld hx hb hSc hbl hbA hS hi2 dL_law_737 ?_
  refine lv_aload_n hx hb dL_law_738 rfl (lv_at hl 0 rfl) ?_
  refine lv_iload_n hx hb dL_law_739 rfl (lv_at hl 3 rfl) ?_
  refine lv_iconst (v := 3) hx hb dL_law_740 (by decide) ?_
  refine lv_iadd hx hb dL_law_741 ?_
  refine va_sld hx hb hSc hbl hbA hS hi3 dL_law_742 ?_
  have hPc := hP.sub (ws' := (ML hM aM cM tc' cl' tr' g')) [11, 12, 13, 14, 15, 16, 17] rfl
  have hDc := hD.sub (ws' := (ML hM aM cM tc' cl' tr' g')) [11, 12, 13, 14, 15, 16, 17] (by decide) rfl
  have hFc := va_free (wc := (ML hM aM cM tc' cl' tr' g')) hD hS hA [11, 12, 13, 14, 15, 16, 17] rfl
  refine va_calli (va_runV (As := [.int (xs (x3 + 1).toNatClampNeg), .int (xs (x3 + 2).toNatClampNeg), .int (xs (x3 + 3).toNatClampNeg)]) (rest := [.int r0]) ⟨hx, hb, hml, hown, hts⟩ (cM_period l dC dI hM aM cM H.size tc' cl' tr' g' (xs (x3 + 1).toNatClampNeg) (xs (x3 + 2).toNatClampNeg) (xs (x3 + 3).toNatClampNeg) _ hw) (cwV 3 hts gL_law_X1_period rfl rfl rfl (by decide +kernel) ⟨Nat.le_of_ble_eq_true rfl, Nat.le_of_ble_eq_true rfl⟩) ⟨fun a U g mk q => by obtain ⟨q0, q1, qP, qK, qD⟩ := q; exact ⟨q0, q1, qP, va_K.moved (u := U) (U := U.calling g mk a) (Vm.Alike.refl U.vm) qK, qD⟩, va_recv hKM hPc (ci := 1) (q0 := 0) rfl rfl, fun U hU hW => ⟨rfl, by rw [hU], by rw [hU]; exact hPc, va_K.moved hW.alike hKM, hDc.weaken (fun _ _ _ _ => trivial)⟩⟩ rfl rfl hl.1 rfl (lv_room (Nat.le_of_ble_eq_true rfl)) dL_law_743 ⟨Nat.le_of_ble_eq_true rfl, Nat.le_of_ble_eq_true rfl⟩) hS (fun q _ h => hFc q h) hFc (fun r1 g_1 t H1 locs ht hvm hw hB hz1 hk1 hS => ?_)
  obtain ⟨hP1, hK1, hD1⟩ := hB
  rw [ht] at hP1
  obtain ⟨hP, hD⟩ := va_join (wr := (XL hX aX cX tc cl tr g_0)) (w1 := (ML hM aM cM tc' cl' tr' g_1)) hP hD [11, 12, 13, 14, 15, 16, 17] [0, 1, 2, 3, 4, 5, 6, 7, 8, 9, 10] rfl rfl (by decide) (by decide) hk1 hFc hP1 hD1
  clear hP1 hK1 hD1 hFc hk1 hz1 hvm ht hPc hDc
  generalize H1 = H at hP hS ⊢
  try dsimp only at hw
  refine lv_icmp_eq (tgt := 867) hx hb dL_law_746 (by decide) (fun hc => ?_) (fun hc => ?_)
  · exact hnext H locs ls tc cl tr g_0 tc' cl' tr' g_1 hw.2 hP hD hS hl
  · exact absurd hw.1 hc
set_option maxHeartbeats 4000000 in
set_option maxRecDepth 100000 in
theorem law_counts {p : Program} {l : Launch} {e : Env} {s : State} {m : MethodId} {below : List Frame} {meth : Method} {c : Code} {dC : Nat → ClassId} {dI : Nat → Nat → Nat} {b L : Nat} {xs : Nat → Int32} {hX hM : Nat} {aX aM : Nat → Nat} {cX cM : Nat → ClassId} (Rel : Int32 → Int32 → Int64 → Sg → Int32 → Int32 → Int64 → Sg → Prop) (St_counts : Step_counts Rel) (C0 : lw_At p s m meth c b L xs) (hK : va_K (dC, dI) vwCl (XT cX ++ MT cM) s) (x3 : Int32) (hi1 : vp_in (x3 + 1) L) (hi2 : vp_in (x3 + 2) L) (hi3 : vp_in (x3 + 3) L) (hi4 : vp_in (x3 + 4) L) (hnext : ∀ (H : Heap) (locs : List Loc) (ls : Array Slot) (tc cl : Int32) (tr : Int64) (g : Sg) (tc' cl' : Int32) (tr' : Int64) (g' : Sg), Rel tc cl tr g tc' cl' tr' g' → va_P (dC, dI) vwCl ((XL hX aX cX tc cl tr g) ++ (ML hM aM cM tc' cl' tr' g')) H → va_D (fun q : Nat => s.heap.size ≤ q) ((XL hX aX cX tc cl tr g) ++ (ML hM aM cM tc' cl' tr' g')) → va_S (fun q : Nat => s.heap.size ≤ q) s.heap H locs → lv_has ls 4 [(0, .ref b), (1, .ref hX), (2, .ref hM), (3, .int x3)] → W p l e room_1 s m #[Value.ref b] below meth c H locs 18 1461 (lw_Z below #[Value.ref b] s) (F0 m 867 ls [])) : ∀ (H : Heap) (locs : List Loc) (ls : Array Slot) (tc cl : Int32) (tr : Int64) (g : Sg) (tc' cl' : Int32) (tr' : Int64) (g' : Sg), Rel tc cl tr g tc' cl' tr' g' → va_P (dC, dI) vwCl ((XL hX aX cX tc cl tr g) ++ (ML hM aM cM tc' cl' tr' g')) H → va_D (fun q : Nat => s.heap.size ≤ q) ((XL hX aX cX tc cl tr g) ++ (ML hM aM cM tc' cl' tr' g')) → va_S (fun q : Nat => s.heap.size ≤ q) s.heap H locs → lv_has ls 4 [(0, .ref b), (1, .ref hX), (2, .ref hM), (3, .int x3)] → W p l e room_1 s m #[Value.ref b] below meth c H locs 18 1461 (lw_Z below #[Value.ref b] s) (F0 m 751 ls []) := by
  obtain ⟨hx, hb, hr, hml, hown, hts, hSc, hbl, hlocks, hgv⟩ := C0
  have hts := fun w h => hts w (wsL_law_in w h)
  have hown : s.vm.findClass RL = some m.cls := hown
  have hb : c.code = cL_law := hb
  have hA : ∀ q : Nat, s.heap.size ≤ q → (fun q : Nat => s.heap.size ≤ q) q := fun _ h => h
  have hbA : ¬ (fun q : Nat => s.heap.size ≤ q) b := Nat.not_le.mpr hbl
  have hKX := hK.sub (tys' := XT cX) [0, 1, 2, 3, 4, 5, 6, 7, 8, 9] rfl
  have hKM := hK.sub (tys' := MT cM) [10, 11, 12, 13, 14, 15] rfl
  intro H locs ls tc cl tr g tc' cl' tr' g' hRel hP hD hS hl
  have hw := St_counts tc cl tr g tc' cl' tr' g' (xs (x3 + 1).toNatClampNeg) hRel
  refine lv_aload_n hx hb dL_law_751 rfl (lv_at hl 1 rfl) ?_
  refine lv_aload_n hx hb dL_law_752 rfl (lv_at hl 0 rfl) ?_
  refine lv_iload_n hx hb dL_law_753 rfl (lv_at hl 3 rfl) ?_
  refine lv_iconst (v := 1) hx hb dL_law_754 (by decide) ?_
  refine lv_iadd hx hb dL_law_755 ?_
  refine va_sld hx hb hSc hbl hbA hS hi1 dL_law_756 ?_
  have hPc := hP.sub (ws' := (XL hX aX cX tc cl tr g)) [0, 1, 2, 3, 4, 5, 6, 7, 8, 9, 10] rfl
  have hDc := hD.sub (ws' := (XL hX aX cX tc cl tr g)) [0, 1, 2, 3, 4, 5, 6, 7, 8, 9, 10] (by decide) rfl
  have hFc := va_free (wc := (XL hX aX cX tc cl tr g)) hD hS hA [0, 1, 2, 3, 4, 5, 6, 7, 8, 9, 10] rfl
  refine va_calli (va_runV (As := [.int (xs (x3 + 1).toNatClampNeg)]) (rest := []) ⟨hx, hb, hml, hown, hts⟩ (cX_counts l dC dI hX aX cX H.size tc cl tr g (xs (x3 + 1).toNatClampNeg) _ hw) (cwV 1 hts gL_law_X0_counts rfl rfl rfl (by decide +kernel) ⟨Nat.le_of_ble_eq_true rfl, Nat.le_of_ble_eq_true rfl⟩) ⟨fun a U g mk q => by obtain ⟨q0, q1, qP, qK, qD⟩ := q; exact ⟨q0, q1, qP, va_K.moved (u := U) (U := U.calling g mk a) (Vm.Alike.refl U.vm) qK, qD⟩, va_recv hKX hPc (ci := 0) (q0 := 0) rfl rfl, fun U hU hW => ⟨rfl, by rw [hU], by rw [hU]; exact hPc, va_K.moved hW.alike hKX, hDc.weaken (fun _ _ _ _ => trivial)⟩⟩ rfl rfl hl.1 rfl (lv_room (Nat.le_of_ble_eq_true rfl)) dL_law_757 ⟨Nat.le_of_ble_eq_true rfl, Nat.le_of_ble_eq_true rfl⟩) hS (fun q _ h => hFc q h) hFc (fun r0 g_0 t H1 locs ht hvm hw hB hz1 hk1 hS => ?_)
  obtain ⟨hP1, hK1, hD1⟩ := hB
  rw [ht] at hP1
  obtain ⟨hP, hD⟩ := va_join (wr := (ML hM aM cM tc' cl' tr' g')) (w1 := (XL hX aX cX tc cl tr g_0)) hP hD [0, 1, 2, 3, 4, 5, 6, 7, 8, 9, 10] [11, 12, 13, 14, 15, 16, 17] rfl rfl (by decide) (by decide) hk1 hFc hP1 hD1
  have hP := hP.sub (ws' := ((XL hX aX cX tc cl tr g_0) ++ (ML hM aM cM tc' cl' tr' g'))) [7, 8, 9, 10, 11, 12, 13, 14, 15, 16, 17, 0, 1, 2, 3, 4, 5, 6] rfl
  have hD := hD.sub (ws' := ((XL hX aX cX tc cl tr g_0) ++ (ML hM aM cM tc' cl' tr' g'))) [7, 8, 9, 10, 11, 12, 13, 14, 15, 16, 17, 0, 1, 2, 3, 4, 5, 6] (by decide) rfl
  clear hP1 hK1 hD1 hFc hk1 hz1 hvm ht hPc hDc
  generalize H1 = H at hP hS ⊢
  try dsimp only at hw
  refine lv_aload_n hx hb dL_law_760 rfl (lv_at hl 2 rfl) ?_
  refine lv_aload_n hx hb dL_law_761 rfl (lv_at hl 0 rfl) ?_
  refine lv_iload_n hx hb dL_law_762 rfl (lv_at hl 3 rfl) ?_
  refine lv_iconst (v := 1) hx hb dL_law_763 (by decide) ?_
  refine lv_iadd hx hb dL_law_764 ?_
  refine va_sld hx hb hSc hbl hbA hS hi1 dL_law_765 ?_
  have hPc := hP.sub (ws' := (ML hM aM cM tc' cl' tr' g')) [11, 12, 13, 14, 15, 16, 17] rfl
  refine vp_callSi (W.runV (As := [.int (xs (x3 + 1).toNatClampNeg)]) (rest := [.int r0]) ⟨hx, hb, hml, hown, hts⟩ (cM_counts l dC dI hM aM cM tc' cl' tr' g' (xs (x3 + 1).toNatClampNeg) _ hw) (cwV 1 hts gL_law_X1_counts rfl rfl rfl (by decide +kernel) ⟨Nat.le_of_ble_eq_true rfl, Nat.le_of_ble_eq_true rfl⟩) ⟨fun a U g mk q => by obtain ⟨q0, qP, qK⟩ := q; exact ⟨q0, qP, va_K.moved (u := U) (U := U.calling g mk a) (Vm.Alike.refl U.vm) qK⟩, va_recv hKM hPc (ci := 1) (q0 := 0) rfl rfl, fun U hU hW => ⟨rfl, by rw [hU]; exact hPc, va_K.moved hW.alike hKM⟩⟩ rfl rfl hl.1 rfl (lv_room (Nat.le_of_ble_eq_true rfl)) dL_law_766 ⟨Nat.le_of_ble_eq_true rfl, Nat.le_of_ble_eq_true rfl⟩) (fun r1 hw => ?_)
  try dsimp only at hw
  clear hPc
  refine lv_icmp_eq (tgt := 867) hx hb dL_law_769 (by decide) (fun hc => ?_) (fun hc => ?_)
  · exact hnext H locs ls tc cl tr g_0 tc' cl' tr' g' hw.2 hP hD hS hl
  · exact absurd hw.1 hc
set_option maxHeartbeats 4000000 in
set_option maxRecDepth 100000 in
theorem law_at {p : Program} {l : Launch} {e : Env} {s : State} {m : MethodId} {below : List Frame} {meth : Method} {c : Code} {dC : Nat → ClassId} {dI : Nat → Nat → Nat} {b L : Nat} {xs : Nat → Int32} {hX hM : Nat} {aX aM : Nat → Nat} {cX cM : Nat → ClassId} (Rel : Int32 → Int32 → Int64 → Sg → Int32 → Int32 → Int64 → Sg → Prop) (St_at : Step_at Rel) (C0 : lw_At p s m meth c b L xs) (hK : va_K (dC, dI) vwCl (XT cX ++ MT cM) s) (x3 : Int32) (hi1 : vp_in (x3 + 1) L) (hi2 : vp_in (x3 + 2) L) (hi3 : vp_in (x3 + 3) L) (hi4 : vp_in (x3 + 4) L) (hnext : ∀ (H : Heap) (locs : List Loc) (ls : Array Slot) (tc cl : Int32) (tr : Int64) (g : Sg) (tc' cl' : Int32) (tr' : Int64) (g' : Sg), Rel tc cl tr g tc' cl' tr' g' → va_P (dC, dI) vwCl ((XL hX aX cX tc cl tr g) ++ (ML hM aM cM tc' cl' tr' g')) H → va_D (fun q : Nat => s.heap.size ≤ q) ((XL hX aX cX tc cl tr g) ++ (ML hM aM cM tc' cl' tr' g')) → va_S (fun q : Nat => s.heap.size ≤ q) s.heap H locs → lv_has ls 4 [(0, .ref b), (1, .ref hX), (2, .ref hM), (3, .int x3)] → W p l e room_1 s m #[Value.ref b] below meth c H locs 18 1461 (lw_Z below #[Value.ref b] s) (F0 m 867 ls [])) : ∀ (H : Heap) (locs : List Loc) (ls : Array Slot) (tc cl : Int32) (tr : Int64) (g : Sg) (tc' cl' : Int32) (tr' : Int64) (g' : Sg), Rel tc cl tr g tc' cl' tr' g' → va_P (dC, dI) vwCl ((XL hX aX cX tc cl tr g) ++ (ML hM aM cM tc' cl' tr' g')) H → va_D (fun q : Nat => s.heap.size ≤ q) ((XL hX aX cX tc cl tr g) ++ (ML hM aM cM tc' cl' tr' g')) → va_S (fun q : Nat => s.heap.size ≤ q) s.heap H locs → lv_has ls 4 [(0, .ref b), (1, .ref hX), (2, .ref hM), (3, .int x3)] → W p l e room_1 s m #[Value.ref b] below meth c H locs 18 1461 (lw_Z below #[Value.ref b] s) (F0 m 774 ls []) := by
  obtain ⟨hx, hb, hr, hml, hown, hts, hSc, hbl, hlocks, hgv⟩ := C0
  have hts := fun w h => hts w (wsL_law_in w h)
  have hown : s.vm.findClass RL = some m.cls := hown
  have hb : c.code = cL_law := hb
  have hA : ∀ q : Nat, s.heap.size ≤ q → (fun q : Nat => s.heap.size ≤ q) q := fun _ h => h
  have hbA : ¬ (fun q : Nat => s.heap.size ≤ q) b := Nat.not_le.mpr hbl
  have hKX := hK.sub (tys' := XT cX) [0, 1, 2, 3, 4, 5, 6, 7, 8, 9] rfl
  have hKM := hK.sub (tys' := MT cM) [10, 11, 12, 13, 14, 15] rfl
  intro H locs ls tc cl tr g tc' cl' tr' g' hRel hP hD hS hl
  have hw := St_at tc cl tr g tc' cl' tr' g' (xs (x3 + 1).toNatClampNeg) hRel
  refine lv_aload_n hx hb dL_law_774 rfl (lv_at hl 1 rfl) ?_
  refine lv_aload_n hx hb dL_law_775 rfl (lv_at hl 0 rfl) ?_
  refine lv_iload_n hx hb dL_law_776 rfl (lv_at hl 3 rfl) ?_
  refine lv_iconst (v := 1) hx hb dL_law_777 (by decide) ?_
  refine lv_iadd hx hb dL_law_778 ?_
  refine va_sld hx hb hSc hbl hbA hS hi1 dL_law_779 ?_
  have hPc := hP.sub (ws' := (XL hX aX cX tc cl tr g)) [0, 1, 2, 3, 4, 5, 6, 7, 8, 9, 10] rfl
  have hDc := hD.sub (ws' := (XL hX aX cX tc cl tr g)) [0, 1, 2, 3, 4, 5, 6, 7, 8, 9, 10] (by decide) rfl
  have hFc := va_free (wc := (XL hX aX cX tc cl tr g)) hD hS hA [0, 1, 2, 3, 4, 5, 6, 7, 8, 9, 10] rfl
  refine va_calli (va_runV (As := [.int (xs (x3 + 1).toNatClampNeg)]) (rest := []) ⟨hx, hb, hml, hown, hts⟩ (cX_at l dC dI hX aX cX H.size tc cl tr g (xs (x3 + 1).toNatClampNeg) _ hw) (cwV 1 hts gL_law_X0_at rfl rfl rfl (by decide +kernel) ⟨Nat.le_of_ble_eq_true rfl, Nat.le_of_ble_eq_true rfl⟩) ⟨fun a U g mk q => by obtain ⟨q0, q1, qP, qK, qD⟩ := q; exact ⟨q0, q1, qP, va_K.moved (u := U) (U := U.calling g mk a) (Vm.Alike.refl U.vm) qK, qD⟩, va_recv hKX hPc (ci := 0) (q0 := 0) rfl rfl, fun U hU hW => ⟨rfl, by rw [hU], by rw [hU]; exact hPc, va_K.moved hW.alike hKX, hDc.weaken (fun _ _ _ _ => trivial)⟩⟩ rfl rfl hl.1 rfl (lv_room (Nat.le_of_ble_eq_true rfl)) dL_law_780 ⟨Nat.le_of_ble_eq_true rfl, Nat.le_of_ble_eq_true rfl⟩) hS (fun q _ h => hFc q h) hFc (fun r0 g_0 t H1 locs ht hvm hw hB hz1 hk1 hS => ?_)
  obtain ⟨hP1, hK1, hD1⟩ := hB
  rw [ht] at hP1
  obtain ⟨hP, hD⟩ := va_join (wr := (ML hM aM cM tc' cl' tr' g')) (w1 := (XL hX aX cX tc cl tr g_0)) hP hD [0, 1, 2, 3, 4, 5, 6, 7, 8, 9, 10] [11, 12, 13, 14, 15, 16, 17] rfl rfl (by decide) (by decide) hk1 hFc hP1 hD1
  have hP := hP.sub (ws' := ((XL hX aX cX tc cl tr g_0) ++ (ML hM aM cM tc' cl' tr' g'))) [7, 8, 9, 10, 11, 12, 13, 14, 15, 16, 17, 0, 1, 2, 3, 4, 5, 6] rfl
  have hD := hD.sub (ws' := ((XL hX aX cX tc cl tr g_0) ++ (ML hM aM cM tc' cl' tr' g'))) [7, 8, 9, 10, 11, 12, 13, 14, 15, 16, 17, 0, 1, 2, 3, 4, 5, 6] (by decide) rfl
  clear hP1 hK1 hD1 hFc hk1 hz1 hvm ht hPc hDc
  generalize H1 = H at hP hS ⊢
  try dsimp only at hw
  refine lv_aload_n hx hb dL_law_783 rfl (lv_at hl 2 rfl) ?_
  refine lv_aload_n hx hb dL_law_784 rfl (lv_at hl 0 rfl) ?_
  refine lv_iload_n hx hb dL_law_785 rfl (lv_at hl 3 rfl) ?_
  refine lv_iconst (v := 1) hx hb dL_law_786 (by decide) ?_
  refine lv_iadd hx hb dL_law_787 ?_
  refine va_sld hx hb hSc hbl hbA hS hi1 dL_law_788 ?_
  have hPc := hP.sub (ws' := (ML hM aM cM tc' cl' tr' g')) [11, 12, 13, 14, 15, 16, 17] rfl
  have hDc := hD.sub (ws' := (ML hM aM cM tc' cl' tr' g')) [11, 12, 13, 14, 15, 16, 17] (by decide) rfl
  have hFc := va_free (wc := (ML hM aM cM tc' cl' tr' g')) hD hS hA [11, 12, 13, 14, 15, 16, 17] rfl
  refine va_calli (va_runV (As := [.int (xs (x3 + 1).toNatClampNeg)]) (rest := [.int r0]) ⟨hx, hb, hml, hown, hts⟩ (cM_at l dC dI hM aM cM H.size tc' cl' tr' g' (xs (x3 + 1).toNatClampNeg) _ hw) (cwV 1 hts gL_law_X1_at rfl rfl rfl (by decide +kernel) ⟨Nat.le_of_ble_eq_true rfl, Nat.le_of_ble_eq_true rfl⟩) ⟨fun a U g mk q => by obtain ⟨q0, q1, qP, qK, qD⟩ := q; exact ⟨q0, q1, qP, va_K.moved (u := U) (U := U.calling g mk a) (Vm.Alike.refl U.vm) qK, qD⟩, va_recv hKM hPc (ci := 1) (q0 := 0) rfl rfl, fun U hU hW => ⟨rfl, by rw [hU], by rw [hU]; exact hPc, va_K.moved hW.alike hKM, hDc.weaken (fun _ _ _ _ => trivial)⟩⟩ rfl rfl hl.1 rfl (lv_room (Nat.le_of_ble_eq_true rfl)) dL_law_789 ⟨Nat.le_of_ble_eq_true rfl, Nat.le_of_ble_eq_true rfl⟩) hS (fun q _ h => hFc q h) hFc (fun r1 g_1 t H1 locs ht hvm hw hB hz1 hk1 hS => ?_)
  obtain ⟨hP1, hK1, hD1⟩ := hB
  rw [ht] at hP1
  obtain ⟨hP, hD⟩ := va_join (wr := (XL hX aX cX tc cl tr g_0)) (w1 := (ML hM aM cM tc' cl' tr' g_1)) hP hD [11, 12, 13, 14, 15, 16, 17] [0, 1, 2, 3, 4, 5, 6, 7, 8, 9, 10] rfl rfl (by decide) (by decide) hk1 hFc hP1 hD1
  clear hP1 hK1 hD1 hFc hk1 hz1 hvm ht hPc hDc
  generalize H1 = H at hP hS ⊢
  try dsimp only at hw
  refine lv_icmp_eq (tgt := 867) hx hb dL_law_792 (by decide) (fun hc => ?_) (fun hc => ?_)
  · exact hnext H locs ls tc cl tr g_0 tc' cl' tr' g_1 hw.2 hP hD hS hl
  · exact absurd hw.1 hc
set_option maxHeartbeats 4000000 in
set_option maxRecDepth 100000 in
theorem law_stays {p : Program} {l : Launch} {e : Env} {s : State} {m : MethodId} {below : List Frame} {meth : Method} {c : Code} {dC : Nat → ClassId} {dI : Nat → Nat → Nat} {b L : Nat} {xs : Nat → Int32} {hX hM : Nat} {aX aM : Nat → Nat} {cX cM : Nat → ClassId} (Rel : Int32 → Int32 → Int64 → Sg → Int32 → Int32 → Int64 → Sg → Prop) (St_stays : Step_stays Rel) (C0 : lw_At p s m meth c b L xs) (hK : va_K (dC, dI) vwCl (XT cX ++ MT cM) s) (x3 : Int32) (hi1 : vp_in (x3 + 1) L) (hi2 : vp_in (x3 + 2) L) (hi3 : vp_in (x3 + 3) L) (hi4 : vp_in (x3 + 4) L) (hnext : ∀ (H : Heap) (locs : List Loc) (ls : Array Slot) (tc cl : Int32) (tr : Int64) (g : Sg) (tc' cl' : Int32) (tr' : Int64) (g' : Sg), Rel tc cl tr g tc' cl' tr' g' → va_P (dC, dI) vwCl ((XL hX aX cX tc cl tr g) ++ (ML hM aM cM tc' cl' tr' g')) H → va_D (fun q : Nat => s.heap.size ≤ q) ((XL hX aX cX tc cl tr g) ++ (ML hM aM cM tc' cl' tr' g')) → va_S (fun q : Nat => s.heap.size ≤ q) s.heap H locs → lv_has ls 4 [(0, .ref b), (1, .ref hX), (2, .ref hM), (3, .int x3)] → W p l e room_1 s m #[Value.ref b] below meth c H locs 18 1461 (lw_Z below #[Value.ref b] s) (F0 m 867 ls [])) : ∀ (H : Heap) (locs : List Loc) (ls : Array Slot) (tc cl : Int32) (tr : Int64) (g : Sg) (tc' cl' : Int32) (tr' : Int64) (g' : Sg), Rel tc cl tr g tc' cl' tr' g' → va_P (dC, dI) vwCl ((XL hX aX cX tc cl tr g) ++ (ML hM aM cM tc' cl' tr' g')) H → va_D (fun q : Nat => s.heap.size ≤ q) ((XL hX aX cX tc cl tr g) ++ (ML hM aM cM tc' cl' tr' g')) → va_S (fun q : Nat => s.heap.size ≤ q) s.heap H locs → lv_has ls 4 [(0, .ref b), (1, .ref hX), (2, .ref hM), (3, .int x3)] → W p l e room_1 s m #[Value.ref b] below meth c H locs 18 1461 (lw_Z below #[Value.ref b] s) (F0 m 797 ls []) := by
  obtain ⟨hx, hb, hr, hml, hown, hts, hSc, hbl, hlocks, hgv⟩ := C0
  have hts := fun w h => hts w (wsL_law_in w h)
  have hown : s.vm.findClass RL = some m.cls := hown
  have hb : c.code = cL_law := hb
  have hA : ∀ q : Nat, s.heap.size ≤ q → (fun q : Nat => s.heap.size ≤ q) q := fun _ h => h
  have hbA : ¬ (fun q : Nat => s.heap.size ≤ q) b := Nat.not_le.mpr hbl
  have hKX := hK.sub (tys' := XT cX) [0, 1, 2, 3, 4, 5, 6, 7, 8, 9] rfl
  have hKM := hK.sub (tys' := MT cM) [10, 11, 12, 13, 14, 15] rfl
  intro H locs ls tc cl tr g tc' cl' tr' g' hRel hP hD hS hl
  have hw := St_stays tc cl tr g tc' cl' tr' g' (xs (x3 + 1).toNatClampNeg) (xs (x3 + 2).toNatClampNeg) hRel
  refine lv_aload_n hx hb dL_law_797 rfl (lv_at hl 1 rfl) ?_
  refine lv_aload_n hx hb dL_law_798 rfl (lv_at hl 0 rfl) ?_
  refine lv_iload_n hx hb dL_law_799 rfl (lv_at hl 3 rfl) ?_
  refine lv_iconst (v := 1) hx hb dL_law_800 (by decide) ?_
  refine lv_iadd hx hb dL_law_801 ?_
  refine va_sld hx hb hSc hbl hbA hS hi1 dL_law_802 ?_
  refine lv_aload_n hx hb dL_law_803 rfl (lv_at hl 0 rfl) ?_
  refine lv_iload_n hx hb dL_law_804 rfl (lv_at hl 3 rfl) ?_
  refine lv_iconst (v := 2) hx hb dL_law_805 (by decide) ?_
  refine lv_iadd hx hb dL_law_806 ?_
  refine va_sld hx hb hSc hbl hbA hS hi2 dL_law_807 ?_
  have hPc := hP.sub (ws' := (XL hX aX cX tc cl tr g)) [0, 1, 2, 3, 4, 5, 6, 7, 8, 9, 10] rfl
  have hDc := hD.sub (ws' := (XL hX aX cX tc cl tr g)) [0, 1, 2, 3, 4, 5, 6, 7, 8, 9, 10] (by decide) rfl
  have hFc := va_free (wc := (XL hX aX cX tc cl tr g)) hD hS hA [0, 1, 2, 3, 4, 5, 6, 7, 8, 9, 10] rfl
  refine va_calli (va_runV (As := [.int (xs (x3 + 1).toNatClampNeg), .int (xs (x3 + 2).toNatClampNeg)]) (rest := []) ⟨hx, hb, hml, hown, hts⟩ (cX_stays l dC dI hX aX cX H.size tc cl tr g (xs (x3 + 1).toNatClampNeg) (xs (x3 + 2).toNatClampNeg) _ hw) (cwV 2 hts gL_law_X0_stays rfl rfl rfl (by decide +kernel) ⟨Nat.le_of_ble_eq_true rfl, Nat.le_of_ble_eq_true rfl⟩) ⟨fun a U g mk q => by obtain ⟨q0, q1, qP, qK, qD⟩ := q; exact ⟨q0, q1, qP, va_K.moved (u := U) (U := U.calling g mk a) (Vm.Alike.refl U.vm) qK, qD⟩, va_recv hKX hPc (ci := 0) (q0 := 0) rfl rfl, fun U hU hW => ⟨rfl, by rw [hU], by rw [hU]; exact hPc, va_K.moved hW.alike hKX, hDc.weaken (fun _ _ _ _ => trivial)⟩⟩ rfl rfl hl.1 rfl (lv_room (Nat.le_of_ble_eq_true rfl)) dL_law_808 ⟨Nat.le_of_ble_eq_true rfl, Nat.le_of_ble_eq_true rfl⟩) hS (fun q _ h => hFc q h) hFc (fun r0 g_0 t H1 locs ht hvm hw hB hz1 hk1 hS => ?_)
  obtain ⟨hP1, hK1, hD1⟩ := hB
  rw [ht] at hP1
  obtain ⟨hP, hD⟩ := va_join (wr := (ML hM aM cM tc' cl' tr' g')) (w1 := (XL hX aX cX tc cl tr g_0)) hP hD [0, 1, 2, 3, 4, 5, 6, 7, 8, 9, 10] [11, 12, 13, 14, 15, 16, 17] rfl rfl (by decide) (by decide) hk1 hFc hP1 hD1
  have hP := hP.sub (ws' := ((XL hX aX cX tc cl tr g_0) ++ (ML hM aM cM tc' cl' tr' g'))) [7, 8, 9, 10, 11, 12, 13, 14, 15, 16, 17, 0, 1, 2, 3, 4, 5, 6] rfl
  have hD := hD.sub (ws' := ((XL hX aX cX tc cl tr g_0) ++ (ML hM aM cM tc' cl' tr' g'))) [7, 8, 9, 10, 11, 12, 13, 14, 15, 16, 17, 0, 1, 2, 3, 4, 5, 6] (by decide) rfl
  clear hP1 hK1 hD1 hFc hk1 hz1 hvm ht hPc hDc
  generalize H1 = H at hP hS ⊢
  try dsimp only at hw
  refine lv_aload_n hx hb dL_law_811 rfl (lv_at hl 2 rfl) ?_
  refine lv_aload_n hx hb dL_law_812 rfl (lv_at hl 0 rfl) ?_
  refine lv_iload_n hx hb dL_law_813 rfl (lv_at hl 3 rfl) ?_
  refine lv_iconst (v := 1) hx hb dL_law_814 (by decide) ?_
  refine lv_iadd hx hb dL_law_815 ?_
  refine va_sld hx hb hSc hbl hbA hS hi1 dL_law_816 ?_
  refine lv_aload_n hx hb dL_law_817 rfl (lv_at hl 0 rfl) ?_
  refine lv_iload_n hx hb dL_law_818 rfl (lv_at hl 3 rfl) ?_
  refine lv_iconst (v := 2) hx hb dL_law_819 (by decide) ?_
  refine lv_iadd hx hb dL_law_820 ?_
  refine va_sld hx hb hSc hbl hbA hS hi2 dL_law_821 ?_
  have hPc := hP.sub (ws' := (ML hM aM cM tc' cl' tr' g')) [11, 12, 13, 14, 15, 16, 17] rfl
  refine vp_callSi (W.runV (As := [.int (xs (x3 + 1).toNatClampNeg), .int (xs (x3 + 2).toNatClampNeg)]) (rest := [.int r0]) ⟨hx, hb, hml, hown, hts⟩ (cM_stays l dC dI hM aM cM tc' cl' tr' g' (xs (x3 + 1).toNatClampNeg) (xs (x3 + 2).toNatClampNeg) _ hw) (cwV 2 hts gL_law_X1_stays rfl rfl rfl (by decide +kernel) ⟨Nat.le_of_ble_eq_true rfl, Nat.le_of_ble_eq_true rfl⟩) ⟨fun a U g mk q => by obtain ⟨q0, qP, qK⟩ := q; exact ⟨q0, qP, va_K.moved (u := U) (U := U.calling g mk a) (Vm.Alike.refl U.vm) qK⟩, va_recv hKM hPc (ci := 1) (q0 := 0) rfl rfl, fun U hU hW => ⟨rfl, by rw [hU]; exact hPc, va_K.moved hW.alike hKM⟩⟩ rfl rfl hl.1 rfl (lv_room (Nat.le_of_ble_eq_true rfl)) dL_law_822 ⟨Nat.le_of_ble_eq_true rfl, Nat.le_of_ble_eq_true rfl⟩) (fun r1 hw => ?_)
  try dsimp only at hw
  clear hPc
  refine lv_icmp_eq (tgt := 867) hx hb dL_law_825 (by decide) (fun hc => ?_) (fun hc => ?_)
  · exact hnext H locs ls tc cl tr g_0 tc' cl' tr' g' hw.2 hP hD hS hl
  · exact absurd hw.1 hc
set_option maxHeartbeats 4000000 in
set_option maxRecDepth 100000 in
theorem law_count {p : Program} {l : Launch} {e : Env} {s : State} {m : MethodId} {below : List Frame} {meth : Method} {c : Code} {dC : Nat → ClassId} {dI : Nat → Nat → Nat} {b L : Nat} {xs : Nat → Int32} {hX hM : Nat} {aX aM : Nat → Nat} {cX cM : Nat → ClassId} (Rel : Int32 → Int32 → Int64 → Sg → Int32 → Int32 → Int64 → Sg → Prop) (St_count : Step_count Rel) (C0 : lw_At p s m meth c b L xs) (hK : va_K (dC, dI) vwCl (XT cX ++ MT cM) s) (x3 : Int32) (hi1 : vp_in (x3 + 1) L) (hi2 : vp_in (x3 + 2) L) (hi3 : vp_in (x3 + 3) L) (hi4 : vp_in (x3 + 4) L) (hnext : ∀ (H : Heap) (locs : List Loc) (ls : Array Slot) (tc cl : Int32) (tr : Int64) (g : Sg) (tc' cl' : Int32) (tr' : Int64) (g' : Sg), Rel tc cl tr g tc' cl' tr' g' → va_P (dC, dI) vwCl ((XL hX aX cX tc cl tr g) ++ (ML hM aM cM tc' cl' tr' g')) H → va_D (fun q : Nat => s.heap.size ≤ q) ((XL hX aX cX tc cl tr g) ++ (ML hM aM cM tc' cl' tr' g')) → va_S (fun q : Nat => s.heap.size ≤ q) s.heap H locs → lv_has ls 4 [(0, .ref b), (1, .ref hX), (2, .ref hM), (3, .int x3)] → W p l e room_1 s m #[Value.ref b] below meth c H locs 18 1461 (lw_Z below #[Value.ref b] s) (F0 m 867 ls [])) : ∀ (H : Heap) (locs : List Loc) (ls : Array Slot) (tc cl : Int32) (tr : Int64) (g : Sg) (tc' cl' : Int32) (tr' : Int64) (g' : Sg), Rel tc cl tr g tc' cl' tr' g' → va_P (dC, dI) vwCl ((XL hX aX cX tc cl tr g) ++ (ML hM aM cM tc' cl' tr' g')) H → va_D (fun q : Nat => s.heap.size ≤ q) ((XL hX aX cX tc cl tr g) ++ (ML hM aM cM tc' cl' tr' g')) → va_S (fun q : Nat => s.heap.size ≤ q) s.heap H locs → lv_has ls 4 [(0, .ref b), (1, .ref hX), (2, .ref hM), (3, .int x3)] → W p l e room_1 s m #[Value.ref b] below meth c H locs 18 1461 (lw_Z below #[Value.ref b] s) (F0 m 830 ls []) := by
  obtain ⟨hx, hb, hr, hml, hown, hts, hSc, hbl, hlocks, hgv⟩ := C0
  have hts := fun w h => hts w (wsL_law_in w h)
  have hown : s.vm.findClass RL = some m.cls := hown
  have hb : c.code = cL_law := hb
  have hA : ∀ q : Nat, s.heap.size ≤ q → (fun q : Nat => s.heap.size ≤ q) q := fun _ h => h
  have hbA : ¬ (fun q : Nat => s.heap.size ≤ q) b := Nat.not_le.mpr hbl
  have hKX := hK.sub (tys' := XT cX) [0, 1, 2, 3, 4, 5, 6, 7, 8, 9] rfl
  have hKM := hK.sub (tys' := MT cM) [10, 11, 12, 13, 14, 15] rfl
  intro H locs ls tc cl tr g tc' cl' tr' g' hRel hP hD hS hl
  have hw := St_count tc cl tr g tc' cl' tr' g' (xs (x3 + 1).toNatClampNeg) hRel
  refine lv_aload_n hx hb dL_law_830 rfl (lv_at hl 1 rfl) ?_
  refine lv_aload_n hx hb dL_law_831 rfl (lv_at hl 0 rfl) ?_
  refine lv_iload_n hx hb dL_law_832 rfl (lv_at hl 3 rfl) ?_
  refine lv_iconst (v := 1) hx hb dL_law_833 (by decide) ?_
  refine lv_iadd hx hb dL_law_834 ?_
  refine va_sld hx hb hSc hbl hbA hS hi1 dL_law_835 ?_
  have hPc := hP.sub (ws' := (XL hX aX cX tc cl tr g)) [0, 1, 2, 3, 4, 5, 6, 7, 8, 9, 10] rfl
  refine vp_callSi (W.runV (As := [.int (xs (x3 + 1).toNatClampNeg)]) (rest := []) ⟨hx, hb, hml, hown, hts⟩ (cX_count l dC dI hX aX cX tc cl tr g (xs (x3 + 1).toNatClampNeg) _ hw) (cwV 1 hts gL_law_X0_count rfl rfl rfl (by decide +kernel) ⟨Nat.le_of_ble_eq_true rfl, Nat.le_of_ble_eq_true rfl⟩) ⟨fun a U g mk q => by obtain ⟨q0, qP, qK⟩ := q; exact ⟨q0, qP, va_K.moved (u := U) (U := U.calling g mk a) (Vm.Alike.refl U.vm) qK⟩, va_recv hKX hPc (ci := 0) (q0 := 0) rfl rfl, fun U hU hW => ⟨rfl, by rw [hU]; exact hPc, va_K.moved hW.alike hKX⟩⟩ rfl rfl hl.1 rfl (lv_room (Nat.le_of_ble_eq_true rfl)) dL_law_836 ⟨Nat.le_of_ble_eq_true rfl, Nat.le_of_ble_eq_true rfl⟩) (fun r0 hw => ?_)
  try dsimp only at hw
  clear hPc
  refine lv_aload_n hx hb dL_law_839 rfl (lv_at hl 2 rfl) ?_
  refine lv_aload_n hx hb dL_law_840 rfl (lv_at hl 0 rfl) ?_
  refine lv_iload_n hx hb dL_law_841 rfl (lv_at hl 3 rfl) ?_
  refine lv_iconst (v := 1) hx hb dL_law_842 (by decide) ?_
  refine lv_iadd hx hb dL_law_843 ?_
  refine va_sld hx hb hSc hbl hbA hS hi1 dL_law_844 ?_
  have hPc := hP.sub (ws' := (ML hM aM cM tc' cl' tr' g')) [11, 12, 13, 14, 15, 16, 17] rfl
  refine vp_callSi (W.runV (As := [.int (xs (x3 + 1).toNatClampNeg)]) (rest := [.int r0]) ⟨hx, hb, hml, hown, hts⟩ (cM_count l dC dI hM aM cM tc' cl' tr' g' (xs (x3 + 1).toNatClampNeg) _ hw) (cwV 1 hts gL_law_X1_count rfl rfl rfl (by decide +kernel) ⟨Nat.le_of_ble_eq_true rfl, Nat.le_of_ble_eq_true rfl⟩) ⟨fun a U g mk q => by obtain ⟨q0, qP, qK⟩ := q; exact ⟨q0, qP, va_K.moved (u := U) (U := U.calling g mk a) (Vm.Alike.refl U.vm) qK⟩, va_recv hKM hPc (ci := 1) (q0 := 0) rfl rfl, fun U hU hW => ⟨rfl, by rw [hU]; exact hPc, va_K.moved hW.alike hKM⟩⟩ rfl rfl hl.1 rfl (lv_room (Nat.le_of_ble_eq_true rfl)) dL_law_845 ⟨Nat.le_of_ble_eq_true rfl, Nat.le_of_ble_eq_true rfl⟩) (fun r1 hw => ?_)
  try dsimp only at hw
  clear hPc
  refine lv_icmp_eq (tgt := 867) hx hb dL_law_848 (by decide) (fun hc => ?_) (fun hc => ?_)
  · exact hnext H locs ls tc cl tr g tc' cl' tr' g' hw.2 hP hD hS hl
  · exact absurd hw.1 hc
set_option maxHeartbeats 4000000 in
set_option maxRecDepth 100000 in
theorem law_trace {p : Program} {l : Launch} {e : Env} {s : State} {m : MethodId} {below : List Frame} {meth : Method} {c : Code} {dC : Nat → ClassId} {dI : Nat → Nat → Nat} {b L : Nat} {xs : Nat → Int32} {hX hM : Nat} {aX aM : Nat → Nat} {cX cM : Nat → ClassId} (Rel : Int32 → Int32 → Int64 → Sg → Int32 → Int32 → Int64 → Sg → Prop) (St_trace : Step_trace Rel) (C0 : lw_At p s m meth c b L xs) (hK : va_K (dC, dI) vwCl (XT cX ++ MT cM) s) (x3 : Int32) (hi1 : vp_in (x3 + 1) L) (hi2 : vp_in (x3 + 2) L) (hi3 : vp_in (x3 + 3) L) (hi4 : vp_in (x3 + 4) L) (hnext : ∀ (H : Heap) (locs : List Loc) (ls : Array Slot) (tc cl : Int32) (tr : Int64) (g : Sg) (tc' cl' : Int32) (tr' : Int64) (g' : Sg), Rel tc cl tr g tc' cl' tr' g' → va_P (dC, dI) vwCl ((XL hX aX cX tc cl tr g) ++ (ML hM aM cM tc' cl' tr' g')) H → va_D (fun q : Nat => s.heap.size ≤ q) ((XL hX aX cX tc cl tr g) ++ (ML hM aM cM tc' cl' tr' g')) → va_S (fun q : Nat => s.heap.size ≤ q) s.heap H locs → lv_has ls 4 [(0, .ref b), (1, .ref hX), (2, .ref hM), (3, .int x3)] → W p l e room_1 s m #[Value.ref b] below meth c H locs 18 1461 (lw_Z below #[Value.ref b] s) (F0 m 867 ls [])) : ∀ (H : Heap) (locs : List Loc) (ls : Array Slot) (tc cl : Int32) (tr : Int64) (g : Sg) (tc' cl' : Int32) (tr' : Int64) (g' : Sg), Rel tc cl tr g tc' cl' tr' g' → va_P (dC, dI) vwCl ((XL hX aX cX tc cl tr g) ++ (ML hM aM cM tc' cl' tr' g')) H → va_D (fun q : Nat => s.heap.size ≤ q) ((XL hX aX cX tc cl tr g) ++ (ML hM aM cM tc' cl' tr' g')) → va_S (fun q : Nat => s.heap.size ≤ q) s.heap H locs → lv_has ls 4 [(0, .ref b), (1, .ref hX), (2, .ref hM), (3, .int x3)] → W p l e room_1 s m #[Value.ref b] below meth c H locs 18 1461 (lw_Z below #[Value.ref b] s) (F0 m 853 ls []) := by
  obtain ⟨hx, hb, hr, hml, hown, hts, hSc, hbl, hlocks, hgv⟩ := C0
  have hts := fun w h => hts w (wsL_law_in w h)
  have hown : s.vm.findClass RL = some m.cls := hown
  have hb : c.code = cL_law := hb
  have hA : ∀ q : Nat, s.heap.size ≤ q → (fun q : Nat => s.heap.size ≤ q) q := fun _ h => h
  have hbA : ¬ (fun q : Nat => s.heap.size ≤ q) b := Nat.not_le.mpr hbl
  have hKX := hK.sub (tys' := XT cX) [0, 1, 2, 3, 4, 5, 6, 7, 8, 9] rfl
  have hKM := hK.sub (tys' := MT cM) [10, 11, 12, 13, 14, 15] rfl
  intro H locs ls tc cl tr g tc' cl' tr' g' hRel hP hD hS hl
  have hw := St_trace tc cl tr g tc' cl' tr' g' hRel
  refine lv_aload_n hx hb dL_law_853 rfl (lv_at hl 1 rfl) ?_
  have hPc := hP.sub (ws' := (XL hX aX cX tc cl tr g)) [0, 1, 2, 3, 4, 5, 6, 7, 8, 9, 10] rfl
  refine vp_callSl (W.runV (As := []) (rest := []) ⟨hx, hb, hml, hown, hts⟩ (cX_trace l dC dI hX aX cX tc cl tr g _ hw) (cwV 0 hts gL_law_X0_trace rfl rfl rfl (by decide +kernel) ⟨Nat.le_of_ble_eq_true rfl, Nat.le_of_ble_eq_true rfl⟩) ⟨fun a U g mk q => by obtain ⟨q0, qP, qK⟩ := q; exact ⟨q0, qP, va_K.moved (u := U) (U := U.calling g mk a) (Vm.Alike.refl U.vm) qK⟩, va_recv hKX hPc (ci := 0) (q0 := 0) rfl rfl, fun U hU hW => ⟨rfl, by rw [hU]; exact hPc, va_K.moved hW.alike hKX⟩⟩ rfl rfl hl.1 rfl (lv_room (Nat.le_of_ble_eq_true rfl)) dL_law_854 ⟨Nat.le_of_ble_eq_true rfl, Nat.le_of_ble_eq_true rfl⟩) (fun r0 hw => ?_)
  try dsimp only at hw
  clear hPc
  refine lv_aload_n hx hb dL_law_857 rfl (lv_at hl 2 rfl) ?_
  have hPc := hP.sub (ws' := (ML hM aM cM tc' cl' tr' g')) [11, 12, 13, 14, 15, 16, 17] rfl
  refine vp_callSl (W.runV (As := []) (rest := [.long r0]) ⟨hx, hb, hml, hown, hts⟩ (cM_trace l dC dI hM aM cM tc' cl' tr' g' _ hw) (cwV 0 hts gL_law_X1_trace rfl rfl rfl (by decide +kernel) ⟨Nat.le_of_ble_eq_true rfl, Nat.le_of_ble_eq_true rfl⟩) ⟨fun a U g mk q => by obtain ⟨q0, qP, qK⟩ := q; exact ⟨q0, qP, va_K.moved (u := U) (U := U.calling g mk a) (Vm.Alike.refl U.vm) qK⟩, va_recv hKM hPc (ci := 1) (q0 := 0) rfl rfl, fun U hU hW => ⟨rfl, by rw [hU]; exact hPc, va_K.moved hW.alike hKM⟩⟩ rfl rfl hl.1 rfl (lv_room (Nat.le_of_ble_eq_true rfl)) dL_law_858 ⟨Nat.le_of_ble_eq_true rfl, Nat.le_of_ble_eq_true rfl⟩) (fun r1 hw => ?_)
  try dsimp only at hw
  clear hPc
  refine W.lcmp hx hb dL_law_861 ?_
  refine lv_if_eq (tgt := 867) hx hb dL_law_862 (by decide) (fun hc => ?_) (fun hc => ?_)
  · exact hnext H locs ls tc cl tr g tc' cl' tr' g' hw.2 hP hD hS hl
  · exact absurd (by rw [hw.1]; simp [lg_cmp]) hc
