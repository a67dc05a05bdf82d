theorem law_lt {i L : Nat} {x3 : Int32} (ex : x3 = nI i) (hi : i ≤ L + 5) (hL : L ≤ 2560) : (nI L - 5 < x3 ↔ L < i + 5) := by
  have e5 : (5 : Int32) = nI 5 := rfl
  rw [ex, e5, Int32.lt_iff_toInt_lt, pk_sub_toInt (by omega) (by omega), nI_toInt (by omega)]
  omega
set_option maxHeartbeats 4000000 in
set_option maxRecDepth 100000 in
theorem law_loop {p : Program} {l : Launch} {e : Env} {s : State} {m : MethodId} {below : List Frame} {meth : Method} {c : Code} {dC : Nat → ClassId} {dI : Nat → Nat → Nat} {b L : Nat} {xs : Nat → Int32} {hX hM : Nat} {aX aM : Nat → Nat} {cX cM : Nat → ClassId} (Rel : Int32 → Int32 → Int64 → Sg → Int32 → Int32 → Int64 → Sg → Prop) (St : Steps_ok Rel) (hL : L ≤ 2560) (C0 : lw_At p s m meth c b L xs) (hK : va_K (dC, dI) vwCl (XT cX ++ MT cM) s) : ∀ (n i : Nat) (x3 : Int32), i ≤ L → L + 1 ≤ i + n → x3 = nI i → ∀ (H : Heap) (locs : List Loc) (ls : Array Slot) (tc cl : Int32) (tr : Int64) (g : Sg) (tc' cl' : Int32) (tr' : Int64) (g' : Sg), Rel tc cl tr g tc' cl' tr' g' → va_P (dC, dI) vwCl ((XL hX aX cX tc cl tr g) ++ (ML hM aM cM tc' cl' tr' g')) H → va_D (fun q : Nat => s.heap.size ≤ q) ((XL hX aX cX tc cl tr g) ++ (ML hM aM cM tc' cl' tr' g')) → va_S (fun q : Nat => s.heap.size ≤ q) s.heap H locs → lv_has ls 4 [(0, .ref b), (1, .ref hX), (2, .ref hM), (3, .int x3)] → W p l e room_1 s m #[Value.ref b] below meth c H locs 18 1461 (lw_Z below #[Value.ref b] s) (F0 m 18 ls []) := by
  have C1 := C0
  obtain ⟨hx, hb, hr, hml, hown, hts, hSc, hbl, hlocks, hgv⟩ := C0
  have hts := fun w h => hts w (wsL_law_in w h)
  have hown : s.vm.findClass RL = some m.cls := hown
  have hb : c.code = cL_law := hb
  have hA : ∀ q : Nat, s.heap.size ≤ q → (fun q : Nat => s.heap.size ≤ q) q := fun _ h => h
  have hbA : ¬ (fun q : Nat => s.heap.size ≤ q) b := Nat.not_le.mpr hbl
  intro n
  induction n with
  | zero =>
    intro i x3 h1 h2
    exact absurd h2 (by omega)
  | succ n ih =>
    intro i x3 hi hin ex3 H locs ls tc cl tr g tc' cl' tr' g' hRel hP hD hS hl
    refine lv_iload_n hx hb dL_law_18 rfl (lv_at hl 3 rfl) ?_
    refine lv_aload_n hx hb dL_law_19 rfl (lv_at hl 0 rfl) ?_
    refine va_slen hx hb hSc hbl hbA hS dL_law_20 ?_
    refine lv_iconst (v := 5) hx hb dL_law_21 (by decide) ?_
    refine lv_isub hx hb dL_law_22 ?_
    refine lv_icmp_gt (tgt := 873) hx hb dL_law_23 (by decide) (fun hc => ?_) (fun hc => ?_)
    · refine lv_iconst (v := 1) hx hb dL_law_873 (by decide) ?_
      refine va_forget (fun q hq => hS.2.2 q hq) ?_
      exact lw_ret hx hb hr hlocks dL_law_874
    · have hlt : i + 5 ≤ L := by
        rcases Nat.lt_or_ge L (i + 5) with q | q
        · exact absurd ((law_lt ex3 (by omega) hL).mpr q) hc
        · exact q
      have hin0 : vp_in x3 L := by rw [ex3]; exact vp_in_nI (by omega) (by omega)
      have hi1 : vp_in (x3 + 1) L := by rw [ex3, show (1 : Int32) = nI 1 from rfl, nI_add]; exact vp_in_nI (by omega) (by omega)
      have hi2 : vp_in (x3 + 2) L := by rw [ex3, show (2 : Int32) = nI 2 from rfl, nI_add]; exact vp_in_nI (by omega) (by omega)
      have hi3 : vp_in (x3 + 3) L := by rw [ex3, show (3 : Int32) = nI 3 from rfl, nI_add]; exact vp_in_nI (by omega) (by omega)
      have hi4 : vp_in (x3 + 4) L := by rw [ex3, show (4 : Int32) = nI 4 from rfl, nI_add]; exact vp_in_nI (by omega) (by omega)
      have hnext : ∀ (H : Heap) (locs : List Loc) (ls : Array Slot) (tc cl : Int32) (tr : Int64) (g : Sg) (tc' cl' : Int32) (tr' : Int64) (g' : Sg), Rel tc cl tr g tc' cl' tr' g' → va_P (dC, dI) vwCl ((XL hX aX cX tc cl tr g) ++ (ML hM aM cM tc' cl' tr' g')) H → va_D (fun q : Nat => s.heap.size ≤ q) ((XL hX aX cX tc cl tr g) ++ (ML hM aM cM tc' cl' tr' g')) → va_S (fun q : Nat => s.heap.size ≤ q) s.heap H locs → lv_has ls 4 [(0, .ref b), (1, .ref hX), (2, .ref hM), (3, .int x3)] → W p l e room_1 s m #[Value.ref b] below meth c H locs 18 1461 (lw_Z below #[Value.ref b] s) (F0 m 867 ls []) := by
        intro H locs ls tc cl tr g tc' cl' tr' g' hRel hP hD hS hl
        refine lv_iinc (v := x3 + 5) (lv' := [(3, .int (x3 + 5)), (0, .ref b), (1, .ref hX), (2, .ref hM)]) hx hb dL_law_867 hl (k := 3) rfl rfl (by decide) rfl (fun ls hl => ?_)
        refine lv_goto (tgt := 18) hx hb dL_law_870 (by decide) ?_
        exact ih (i + 5) (x3 + 5) (by omega) (by omega) (by rw [ex3, show (5 : Int32) = nI 5 from rfl, nI_add]) H locs ls tc cl tr g tc' cl' tr' g' hRel hP hD hS (lv_sub hl [1, 2, 3, 0] rfl)
      refine lv_aload_n hx hb dL_law_26 rfl (lv_at hl 0 rfl) ?_
      refine lv_iload_n hx hb dL_law_27 rfl (lv_at hl 3 rfl) ?_
      refine va_sld hx hb hSc hbl hbA hS hin0 dL_law_28 ?_
      refine lv_bipush (v := 31) hx hb dL_law_29 (by decide) ?_
      refine lv_iand hx hb dL_law_31 ?_
      refine lv_topi (fun y hy => ?_)
      obtain ⟨St0, St1, St2, St3, St4, St5, St6, St7, St8, St9, St10, St11, St12, St13, St14, St15, St16, St17, St18, St19, St20, St21, St22, St23⟩ := St
      by_cases hc0 : y = 0
      · refine lv_tableIn (off := 112) (tgt := 144) hx hb dL_law_32 (by rw [hc0]; decide) (by rw [hc0]; decide) (by rw [hc0]; rfl) (by decide) ?_
        exact law_things Rel St0 C1 hK x3 hi1 hi2 hi3 hi4 hnext H locs ls tc cl tr g tc' cl' tr' g' hRel hP hD hS hl
      by_cases hc1 : y = 1
      · refine lv_tableIn (off := 135) (tgt := 167) hx hb dL_law_32 (by rw [hc1]; decide) (by rw [hc1]; decide) (by rw [hc1]; rfl) (by decide) ?_
        exact law_lay Rel St1 C1 hK x3 hi1 hi2 hi3 hi4 hnext H locs ls tc cl tr g tc' cl' tr' g' hRel hP hD hS hl
      by_cases hc2 : y = 2
      · refine lv_tableIn (off := 168) (tgt := 200) hx hb dL_law_32 (by rw [hc2]; decide) (by rw [hc2]; decide) (by rw [hc2]; rfl) (by decide) ?_
        exact law_below Rel St2 C1 hK x3 hi1 hi2 hi3 hi4 hnext H locs ls tc cl tr g tc' cl' tr' g' hRel hP hD hS hl
      by_cases hc3 : y = 3
      · refine lv_tableIn (off := 201) (tgt := 233) hx hb dL_law_32 (by rw [hc3]; decide) (by rw [hc3]; decide) (by rw [hc3]; rfl) (by decide) ?_
        exact law_weight Rel St3 C1 hK x3 hi1 hi2 hi3 hi4 hnext H locs ls tc cl tr g tc' cl' tr' g' hRel hP hD hS hl
      by_cases hc4 : y = 4
      · refine lv_tableIn (off := 234) (tgt := 266) hx hb dL_law_32 (by rw [hc4]; decide) (by rw [hc4]; decide) (by rw [hc4]; rfl) (by decide) ?_
        exact law_say Rel St4 C1 hK x3 hi1 hi2 hi3 hi4 hnext H locs ls tc cl tr g tc' cl' tr' g' hRel hP hD hS hl
      by_cases hc5 : y = 5
      · refine lv_tableIn (off := 257) (tgt := 289) hx hb dL_law_32 (by rw [hc5]; decide) (by rw [hc5]; decide) (by rw [hc5]; rfl) (by decide) ?_
        exact law_hush Rel St5 C1 hK x3 hi1 hi2 hi3 hi4 hnext H locs ls tc cl tr g tc' cl' tr' g' hRel hP hD hS hl
      by_cases hc6 : y = 6
      · refine lv_tableIn (off := 270) (tgt := 302) hx hb dL_law_32 (by rw [hc6]; decide) (by rw [hc6]; decide) (by rw [hc6]; rfl) (by decide) ?_
        exact law_heap Rel St6 C1 hK x3 hi1 hi2 hi3 hi4 hnext H locs ls tc cl tr g tc' cl' tr' g' hRel hP hD hS hl
      by_cases hc7 : y = 7
      · refine lv_tableIn (off := 293) (tgt := 325) hx hb dL_law_32 (by rw [hc7]; decide) (by rw [hc7]; decide) (by rw [hc7]; rfl) (by decide) ?_
        exact law_many Rel St7 C1 hK x3 hi1 hi2 hi3 hi4 hnext H locs ls tc cl tr g tc' cl' tr' g' hRel hP hD hS hl
      by_cases hc8 : y = 8
      · refine lv_tableIn (off := 306) (tgt := 338) hx hb dL_law_32 (by rw [hc8]; decide) (by rw [hc8]; decide) (by rw [hc8]; rfl) (by decide) ?_
        exact law_flip Rel St8 C1 hK x3 hi1 hi2 hi3 hi4 hnext H locs ls tc cl tr g tc' cl' tr' g' hRel hP hD hS hl
      by_cases hc9 : y = 9
      · refine lv_tableIn (off := 339) (tgt := 371) hx hb dL_law_32 (by rw [hc9]; decide) (by rw [hc9]; decide) (by rw [hc9]; rfl) (by decide) ?_
        exact law_turn Rel St9 C1 hK x3 hi1 hi2 hi3 hi4 hnext H locs ls tc cl tr g tc' cl' tr' g' hRel hP hD hS hl
      by_cases hc10 : y = 10
      · refine lv_tableIn (off := 382) (tgt := 414) hx hb dL_law_32 (by rw [hc10]; decide) (by rw [hc10]; decide) (by rw [hc10]; rfl) (by decide) ?_
        exact law_orbit Rel St10 C1 hK x3 hi1 hi2 hi3 hi4 hnext H locs ls tc cl tr g tc' cl' tr' g' hRel hP hD hS hl
      by_cases hc11 : y = 11
      · refine lv_tableIn (off := 415) (tgt := 447) hx hb dL_law_32 (by rw [hc11]; decide) (by rw [hc11]; decide) (by rw [hc11]; rfl) (by decide) ?_
        exact law_orbits Rel St11 C1 hK x3 hi1 hi2 hi3 hi4 hnext H locs ls tc cl tr g tc' cl' tr' g' hRel hP hD hS hl
      by_cases hc12 : y = 12
      · refine lv_tableIn (off := 448) (tgt := 480) hx hb dL_law_32 (by rw [hc12]; decide) (by rw [hc12]; decide) (by rw [hc12]; rfl) (by decide) ?_
        exact law_measure Rel St12 C1 hK x3 hi1 hi2 hi3 hi4 hnext H locs ls tc cl tr g tc' cl' tr' g' hRel hP hD hS hl
      by_cases hc13 : y = 13
      · refine lv_tableIn (off := 481) (tgt := 513) hx hb dL_law_32 (by rw [hc13]; decide) (by rw [hc13]; decide) (by rw [hc13]; rfl) (by decide) ?_
        exact law_mean Rel St13 C1 hK x3 hi1 hi2 hi3 hi4 hnext H locs ls tc cl tr g tc' cl' tr' g' hRel hP hD hS hl
      by_cases hc14 : y = 14
      · refine lv_tableIn (off := 534) (tgt := 566) hx hb dL_law_32 (by rw [hc14]; decide) (by rw [hc14]; decide) (by rw [hc14]; rfl) (by decide) ?_
        exact law_even Rel St14 C1 hK x3 hi1 hi2 hi3 hi4 hnext H locs ls tc cl tr g tc' cl' tr' g' hRel hP hD hS hl
      by_cases hc15 : y = 15
      · refine lv_tableIn (off := 567) (tgt := 599) hx hb dL_law_32 (by rw [hc15]; decide) (by rw [hc15]; decide) (by rw [hc15]; rfl) (by decide) ?_
        exact law_fillings Rel St15 C1 hK x3 hi1 hi2 hi3 hi4 hnext H locs ls tc cl tr g tc' cl' tr' g' hRel hP hD hS hl
      by_cases hc16 : y = 16
      · refine lv_tableIn (off := 590) (tgt := 622) hx hb dL_law_32 (by rw [hc16]; decide) (by rw [hc16]; decide) (by rw [hc16]; rfl) (by decide) ?_
        exact law_bend Rel St16 C1 hK x3 hi1 hi2 hi3 hi4 hnext H locs ls tc cl tr g tc' cl' tr' g' hRel hP hD hS hl
      by_cases hc17 : y = 17
      · refine lv_tableIn (off := 633) (tgt := 665) hx hb dL_law_32 (by rw [hc17]; decide) (by rw [hc17]; decide) (by rw [hc17]; rfl) (by decide) ?_
        exact law_round Rel St17 C1 hK x3 hi1 hi2 hi3 hi4 hnext H locs ls tc cl tr g tc' cl' tr' g' hRel hP hD hS hl
      by_cases hc18 : y = 18
      · refine lv_tableIn (off := 676) (tgt := 708) hx hb dL_law_32 (by rw [hc18]; decide) (by rw [hc18]; decide) (by rw [hc18]; rfl) (by decide) ?_
        exact law_period Rel St18 C1 hK x3 hi1 hi2 hi3 hi4 hnext H locs ls tc cl tr g tc' cl' tr' g' hRel hP hD hS hl
      by_cases hc19 : y = 19
      · refine lv_tableIn (off := 719) (tgt := 751) hx hb dL_law_32 (by rw [hc19]; decide) (by rw [hc19]; decide) (by rw [hc19]; rfl) (by decide) ?_
        exact law_counts Rel St19 C1 hK x3 hi1 hi2 hi3 hi4 hnext H locs ls tc cl tr g tc' cl' tr' g' hRel hP hD hS hl
      by_cases hc20 : y = 20
      · refine lv_tableIn (off := 742) (tgt := 774) hx hb dL_law_32 (by rw [hc20]; decide) (by rw [hc20]; decide) (by rw [hc20]; rfl) (by decide) ?_
        exact law_at Rel St20 C1 hK x3 hi1 hi2 hi3 hi4 hnext H locs ls tc cl tr g tc' cl' tr' g' hRel hP hD hS hl
      by_cases hc21 : y = 21
      · refine lv_tableIn (off := 765) (tgt := 797) hx hb dL_law_32 (by rw [hc21]; decide) (by rw [hc21]; decide) (by rw [hc21]; rfl) (by decide) ?_
        exact law_stays Rel St21 C1 hK x3 hi1 hi2 hi3 hi4 hnext H locs ls tc cl tr g tc' cl' tr' g' hRel hP hD hS hl
      by_cases hc22 : y = 22
      · refine lv_tableIn (off := 798) (tgt := 830) hx hb dL_law_32 (by rw [hc22]; decide) (by rw [hc22]; decide) (by rw [hc22]; rfl) (by decide) ?_
        exact law_count Rel St22 C1 hK x3 hi1 hi2 hi3 hi4 hnext H locs ls tc cl tr g tc' cl' tr' g' hRel hP hD hS hl
      by_cases hc23 : y = 23
      · refine lv_tableIn (off := 821) (tgt := 853) hx hb dL_law_32 (by rw [hc23]; decide) (by rw [hc23]; decide) (by rw [hc23]; rfl) (by decide) ?_
        exact law_trace Rel St23 C1 hK x3 hi1 hi2 hi3 hi4 hnext H locs ls tc cl tr g tc' cl' tr' g' hRel hP hD hS hl
      have hout : y.toInt < 0 ∨ 23 < y.toInt := sw_out (lo := 0) (n := 24) (fun k hk => by rcases (show k = 0 ∨ k = 1 ∨ k = 2 ∨ k = 3 ∨ k = 4 ∨ k = 5 ∨ k = 6 ∨ k = 7 ∨ k = 8 ∨ k = 9 ∨ k = 10 ∨ k = 11 ∨ k = 12 ∨ k = 13 ∨ k = 14 ∨ k = 15 ∨ k = 16 ∨ k = 17 ∨ k = 18 ∨ k = 19 ∨ k = 20 ∨ k = 21 ∨ k = 22 ∨ k = 23 by omega) with rfl | rfl | rfl | rfl | rfl | rfl | rfl | rfl | rfl | rfl | rfl | rfl | rfl | rfl | rfl | rfl | rfl | rfl | rfl | rfl | rfl | rfl | rfl | rfl <;> assumption)
      refine lv_tableOut (tgt := 867) hx hb dL_law_32 hout (by decide) ?_
      exact hnext H locs ls tc cl tr g tc' cl' tr' g' hRel hP hD hS hl
set_option maxHeartbeats 4000000 in
set_option maxRecDepth 100000 in
theorem start_open {p : Program} {e : Env} {s : State} {m : MethodId} {below : List Frame} {meth : Method} {c : Code} (l : Launch) {b L : Nat} {xs : Nat → Int32} (Rel : Int32 → Int32 → Int64 → Sg → Int32 → Int32 → Int64 → Sg → Prop) (St : Steps_ok Rel) (hR0 : Rel 3 0 0 (fun _ _ => 0) 3 0 0 (fun _ _ => 0)) (hL : L ≤ 2560) (C0 : lw_At p s m meth c b L xs) : W p l e room_1 s m #[Value.ref b] below meth c s.heap [] 0 0 (lw_Z below #[Value.ref b] s) (entryFrame m ([Value.ref b] : List Value).toArray 4) := by
  have C1 := C0
  obtain ⟨hx, hb, hr, hml, hown, hts0, hSc, hbl, hlocks, hgv⟩ := C0
  have hts := fun w h => hts0 w (wsL_law_in w h)
  have hown : s.vm.findClass RL = some m.cls := hown
  have hb : c.code = cL_law := hb
  have hA : ∀ q : Nat, s.heap.size ≤ q → (fun q : Nat => s.heap.size ≤ q) q := fun _ h => h
  obtain ⟨c0, iS0, hKn0⟩ := u_known (C := RX0) (T := TX0) (N := 13) (n := 13) hts inlX0 (hts (.instantiable RX0 13) (List.mem_append_left _ (List.mem_append_left _ (List.mem_append_left _ (List.mem_append_left _ (List.mem_of_getElem? (i := 1) rfl))))))
  obtain ⟨c1, iS1, hKn1⟩ := u_known (C := RX1) (T := TX1) (N := 9) (n := 9) hts inlX1 (hts (.instantiable RX1 9) (List.mem_append_left _ (List.mem_append_left _ (List.mem_append_left _ (List.mem_append_left _ (List.mem_of_getElem? (i := 4) rfl))))))
  obtain ⟨dC, dI, hKc⟩ : ∃ (dC : Nat → ClassId) (dI : Nat → Nat → Nat), ∀ (k : Nat) (q : vw_C), vwCl[k]? = some q → u_Kn s q.1 q.2.1 q.2.2 (dC k) (dI k) := by
    refine ⟨fun k => if k = 0 then c0 else c1, fun k => if k = 0 then iS0 else iS1, ?_⟩
    intro k q hq
    match k, hq with
    | 0, hq => cases hq; exact hKn0
    | 1, hq => cases hq; exact hKn1
    | k + 2, hq => simp [vwCl] at hq
  have hS : va_S (fun q : Nat => s.heap.size ≤ q) s.heap s.heap [] := va_S.rf
  have hK : va_K (dC, dI) vwCl [] s := ⟨hKc, fun k q h => by simp at h⟩
  have hP : va_P (dC, dI) vwCl [] s.heap := fun k q h => by simp at h
  have hD : va_D (fun q : Nat => s.heap.size ≤ q) [] := ⟨fun i j p q h => by simp at h, fun k q h => by simp at h⟩
  have hl := lv_entry ([.ref b]) (n := 4) (Nat.le_of_ble_eq_true rfl)
  rw [lg_entry_eq]
  generalize (lg_sl ([.ref b]) ++ List.replicate (4 - (lg_sl ([.ref b])).length) Slot.unset).toArray = ls at hl ⊢
  have hl : lv_has ls 4 [(0, .ref b)] := hl
  refine va_new (ci := 0) (fs := [.int 0, .int 0, .long 0, .null, .null, .null, .null, .null, .null, .null, .null, .null, .null]) (C := RX0) (T := TX0) (N := 13) hx hb hts inlX0 tyX0 tyX0_ok hown (hts (.classLink RL 7 RX0) (List.mem_append_left _ (List.mem_append_left _ (List.mem_append_left _ (List.mem_append_left _ (List.mem_of_getElem? (i := 0) rfl)))))) (hts (.instantiable RX0 13) (List.mem_append_left _ (List.mem_append_left _ (List.mem_append_left _ (List.mem_append_left _ (List.mem_of_getElem? (i := 1) rfl)))))) (hts (.initialized RX0) (List.mem_append_left _ (List.mem_append_left _ (List.mem_append_left _ (List.mem_append_left _ (List.mem_of_getElem? (i := 2) rfl)))))) hK hP hD hS hA rfl (fun j hj => by rcases (show j = 0 ∨ j = 1 ∨ j = 2 ∨ j = 3 ∨ j = 4 ∨ j = 5 ∨ j = 6 ∨ j = 7 ∨ j = 8 ∨ j = 9 ∨ j = 10 ∨ j = 11 ∨ j = 12 by omega) with rfl | rfl | rfl | rfl | rfl | rfl | rfl | rfl | rfl | rfl | rfl | rfl | rfl <;> rfl) (Nat.le_of_ble_eq_true rfl) (Nat.le_of_ble_eq_true rfl) dL_law_0 (fun q0 H hP hD hS => ?_)
  have hP : va_P (dC, dI) vwCl [(q0, .inr (0, [.int 0, .int 0, .long 0, .null, .null, .null, .null, .null, .null, .null, .null, .null, .null]))] H := hP
  have hD : va_D (fun q : Nat => s.heap.size ≤ q) [(q0, .inr (0, [.int 0, .int 0, .long 0, .null, .null, .null, .null, .null, .null, .null, .null, .null, .null]))] := hD
  refine W.widen (k := 1) (n := 13) (Nat.le_of_ble_eq_true rfl) (Nat.le_of_ble_eq_true rfl) ?_
  refine lv_dup hx hb dL_law_3 rfl ?_
  have hFc := va_free (wc := [(q0, .inr (0, [.int 0, .int 0, .long 0, .null, .null, .null, .null, .null, .null, .null, .null, .null, .null]))]) hD hS hA [0] rfl
  have hPc := hP.sub (ws' := [(q0, .inr (0, [.int 0, .int 0, .long 0, .null, .null, .null, .null, .null, .null, .null, .null, .null, .null]))]) [0] rfl
  have hDc := hD.sub (ws' := [(q0, .inr (0, [.int 0, .int 0, .long 0, .null, .null, .null, .null, .null, .null, .null, .null, .null, .null]))]) [0] (by decide) rfl
  have hKc0 := hK.sub (tys' := []) [] rfl
  refine va_callv (va_runI (As := []) (rest := [.ref q0]) ⟨hx, hb, hml, hown, hts⟩ (cX_init l dC dI q0 H.size) (cwI 0 hts gL_law_X0_init rfl rfl rfl (hts (.initialized RX0) (List.mem_append_left _ (List.mem_append_left _ (List.mem_append_left _ (List.mem_append_left _ (List.mem_of_getElem? (i := 2) rfl)))))) (hts (.methodLink RL 9 yX0_init) (List.mem_append_left _ (List.mem_append_left _ (List.mem_append_left _ (List.mem_append_left _ (List.mem_of_getElem? (i := 6) rfl)))))) (hts (.instanceMethod yX0_init) (List.mem_append_left _ (List.mem_append_left _ (List.mem_append_left _ (List.mem_append_left _ (List.mem_of_getElem? (i := 7) rfl)))))) rfl (by decide +kernel) ⟨Nat.le_of_ble_eq_true rfl, Nat.le_of_ble_eq_true rfl⟩) ⟨fun a U g mk q => by obtain ⟨q0, q1, qP, qK, qD⟩ := q; exact ⟨q0, q1, qP, va_K.moved (u := U) (U := U.calling g mk a) (Vm.Alike.refl U.vm) qK, qD⟩, fun U hU hW => ⟨rfl, by rw [hU], by rw [hU]; exact hPc, va_K.moved hW.alike hKc0, hDc.weaken (fun _ _ _ _ => trivial)⟩⟩ rfl rfl hl.1 rfl (lv_room (Nat.le_of_ble_eq_true rfl)) dL_law_4 ⟨Nat.le_of_ble_eq_true rfl, Nat.le_of_ble_eq_true rfl⟩) hS (fun q _ h => hFc q h) hFc (fun u0 t H1 locs ht hvm hw hB hz1 hk1 hS => ?_)
  obtain ⟨hP1, hK1, hD1⟩ := hB
  rw [ht] at hP1
  have hK1 := va_K.moved hvm.symm hK1
  obtain ⟨hP, hD⟩ := va_join (wr := []) (w1 := XL q0 u0.1 u0.2 3 0 0 (fun _ _ => 0)) hP hD [0] [] rfl rfl (by decide) (by decide) hk1 hFc hP1 hD1
  have hK : va_K (dC, dI) vwCl (XT u0.2) s := hK1
  have hP : va_P (dC, dI) vwCl (XL q0 u0.1 u0.2 3 0 0 (fun _ _ => 0)) H1 := hP
  have hD : va_D (fun q : Nat => s.heap.size ≤ q) (XL q0 u0.1 u0.2 3 0 0 (fun _ _ => 0)) := hD
  clear hP1 hK1 hD1 hFc hk1 hz1 hvm ht hPc hDc hKc0
  generalize H1 = H at hP hS ⊢
  refine W.widen (k := 11) (n := 1094) (Nat.le_of_ble_eq_true rfl) (Nat.le_of_ble_eq_true rfl) ?_
  refine lv_astore_n (lv' := [(1, .ref q0), (0, .ref b)]) hx hb dL_law_7 rfl hl (by decide) rfl (fun ls hl => ?_)
  refine va_new (ci := 1) (fs := [.int 0, .null, .null, .null, .int 0, .long 0, .null, .null, .null]) (C := RX1) (T := TX1) (N := 9) hx hb hts inlX1 tyX1 tyX1_ok hown (hts (.classLink RL 10 RX1) (List.mem_append_left _ (List.mem_append_left _ (List.mem_append_left _ (List.mem_append_left _ (List.mem_of_getElem? (i := 3) rfl)))))) (hts (.instantiable RX1 9) (List.mem_append_left _ (List.mem_append_left _ (List.mem_append_left _ (List.mem_append_left _ (List.mem_of_getElem? (i := 4) rfl)))))) (hts (.initialized RX1) (List.mem_append_left _ (List.mem_append_left _ (List.mem_append_left _ (List.mem_append_left _ (List.mem_of_getElem? (i := 5) rfl)))))) hK hP hD hS hA rfl (fun j hj => by rcases (show j = 0 ∨ j = 1 ∨ j = 2 ∨ j = 3 ∨ j = 4 ∨ j = 5 ∨ j = 6 ∨ j = 7 ∨ j = 8 by omega) with rfl | rfl | rfl | rfl | rfl | rfl | rfl | rfl | rfl <;> rfl) (Nat.le_of_ble_eq_true rfl) (Nat.le_of_ble_eq_true rfl) dL_law_8 (fun q1 H hP hD hS => ?_)
  have hP : va_P (dC, dI) vwCl (XL q0 u0.1 u0.2 3 0 0 (fun _ _ => 0) ++ [(q1, .inr (1, [.int 0, .null, .null, .null, .int 0, .long 0, .null, .null, .null]))]) H := hP
  have hD : va_D (fun q : Nat => s.heap.size ≤ q) (XL q0 u0.1 u0.2 3 0 0 (fun _ _ => 0) ++ [(q1, .inr (1, [.int 0, .null, .null, .null, .int 0, .long 0, .null, .null, .null]))]) := hD
  refine W.widen (k := 12) (n := 1103) (Nat.le_of_ble_eq_true rfl) (Nat.le_of_ble_eq_true rfl) ?_
  refine lv_dup hx hb dL_law_11 rfl ?_
  have hFc := va_free (wc := [(q1, .inr (1, [.int 0, .null, .null, .null, .int 0, .long 0, .null, .null, .null]))]) hD hS hA [11] rfl
  have hPc := hP.sub (ws' := [(q1, .inr (1, [.int 0, .null, .null, .null, .int 0, .long 0, .null, .null, .null]))]) [11] rfl
  have hDc := hD.sub (ws' := [(q1, .inr (1, [.int 0, .null, .null, .null, .int 0, .long 0, .null, .null, .null]))]) [11] (by decide) rfl
  have hKc0 := hK.sub (tys' := []) [] rfl
  refine va_callv (va_runI (As := []) (rest := [.ref q1]) ⟨hx, hb, hml, hown, hts⟩ (cM_init l dC dI q1 H.size) (cwI 0 hts gL_law_X1_init rfl rfl rfl (hts (.initialized RX1) (List.mem_append_left _ (List.mem_append_left _ (List.mem_append_left _ (List.mem_append_left _ (List.mem_of_getElem? (i := 5) rfl)))))) (hts (.methodLink RL 12 yX1_init) (List.mem_append_left _ (List.mem_append_left _ (List.mem_append_left _ (List.mem_append_right _ (List.mem_append_left _ (List.mem_of_getElem? (i := 1) rfl))))))) (hts (.instanceMethod yX1_init) (List.mem_append_left _ (List.mem_append_left _ (List.mem_append_left _ (List.mem_append_right _ (List.mem_append_left _ (List.mem_of_getElem? (i := 2) rfl))))))) rfl (by decide +kernel) ⟨Nat.le_of_ble_eq_true rfl, Nat.le_of_ble_eq_true rfl⟩) ⟨fun a U g mk q => by obtain ⟨q0, q1, qP, qK, qD⟩ := q; exact ⟨q0, q1, qP, va_K.moved (u := U) (U := U.calling g mk a) (Vm.Alike.refl U.vm) qK, qD⟩, fun U hU hW => ⟨rfl, by rw [hU], by rw [hU]; exact hPc, va_K.moved hW.alike hKc0, hDc.weaken (fun _ _ _ _ => trivial)⟩⟩ rfl rfl hl.1 rfl (lv_room (Nat.le_of_ble_eq_true rfl)) dL_law_12 ⟨Nat.le_of_ble_eq_true rfl, Nat.le_of_ble_eq_true rfl⟩) hS (fun q _ h => hFc q h) hFc (fun u1 t H1 locs ht hvm hw hB hz1 hk1 hS => ?_)
  obtain ⟨hP1, hK1, hD1⟩ := hB
  rw [ht] at hP1
  have hK1 := va_K.moved hvm.symm hK1
  obtain ⟨hP, hD⟩ := va_join (wr := XL q0 u0.1 u0.2 3 0 0 (fun _ _ => 0)) (w1 := ML q1 u1.1 u1.2 3 0 0 (fun _ _ => 0)) hP hD [11] [0, 1, 2, 3, 4, 5, 6, 7, 8, 9, 10] rfl rfl (by decide) (by decide) hk1 hFc hP1 hD1
  have hK : va_K (dC, dI) vwCl (XT u0.2 ++ MT u1.2) s := hK.app hK1
  clear hP1 hK1 hD1 hFc hk1 hz1 hvm ht hPc hDc hKc0
  generalize H1 = H at hP hS ⊢
  refine W.widen (k := 18) (n := 1461) (Nat.le_of_ble_eq_true rfl) (Nat.le_of_ble_eq_true rfl) ?_
  refine lv_astore_n (lv' := [(2, .ref q1), (1, .ref q0), (0, .ref b)]) hx hb dL_law_15 rfl hl (by decide) rfl (fun ls hl => ?_)
  refine lv_iconst (v := 0) hx hb dL_law_16 (by decide) ?_
  refine lv_istore_n (lv' := [(3, .int 0), (2, .ref q1), (1, .ref q0), (0, .ref b)]) hx hb dL_law_17 rfl hl (by decide) rfl (fun ls hl => ?_)
  exact law_loop Rel St hL C1 hK (L + 1) 0 0 (Nat.zero_le L) (by omega) nI_0.symm H locs ls 3 0 0 (fun _ _ => 0) 3 0 0 (fun _ _ => 0) hR0 hP hD hS (lv_sub hl [3, 2, 1, 0] rfl)
