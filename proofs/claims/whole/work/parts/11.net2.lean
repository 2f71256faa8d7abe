/-! OrderKeeper$Net.copyFrom(LOrderKeeper$Net;)V -/
theorem in_X2_copyFrom_X2 : ∀ w ∈ wsX20, w ∈ wsX2_copyFrom := fun _ h => List.mem_cons_of_mem _ (List.mem_append_right _ h)
theorem hdS_X2_copyFrom : yX2_copyFrom.cls ≠ "java/lang/invoke/MethodHandle" ∧ yX2_copyFrom.cls ≠ "java/lang/invoke/VarHandle" ∧ (parseMethodDescriptor yX2_copyFrom.desc).map (fun d => d.parameters.length) = some 1 := by decide +kernel
theorem hdV_X2_copyFrom : yX2_copyFrom.cls = RX2 ∧ yX2_copyFrom.cls ≠ "java/lang/invoke/MethodHandle" ∧ yX2_copyFrom.cls ≠ "java/lang/invoke/VarHandle" ∧ (parseMethodDescriptor yX2_copyFrom.desc).map (fun d => d.parameters.length) = some 1 := ⟨rfl, hdS_X2_copyFrom⟩
def wp_X2_copyFrom (v_tasks : Int32) (v_ties : Int32) (v_weight : Nat → Int32) (v_after : Nat → Int64) (v_before : Nat → Int64) (v_placeOf : Nat → Int32) (v_taskAt : Nat → Int32) (w1_tasks : Int32) (w1_ties : Int32) (w1_weight : Nat → Int32) (w1_after : Nat → Int64) (w1_before : Nat → Int64) (w1_placeOf : Nat → Int32) (w1_taskAt : Nat → Int32) (post : (Int32) → (Int32) → (Nat → Int32) → (Nat → Int64) → (Nat → Int64) → (Nat → Int32) → (Nat → Int32) → Prop) : Prop := ∀ v_weight_1 : Nat → Int32, v_weight_1 = va_cpy w1_weight v_weight 0 0 60 → ∀ v_after_2 : Nat → Int64, v_after_2 = va_cpy w1_after v_after 0 0 60 → ∀ v_before_3 : Nat → Int64, v_before_3 = va_cpy w1_before v_before 0 0 60 → ∀ v_placeOf_4 : Nat → Int32, v_placeOf_4 = va_cpy w1_placeOf v_placeOf 0 0 60 → ∀ v_taskAt_5 : Nat → Int32, v_taskAt_5 = va_cpy w1_taskAt v_taskAt 0 0 60 → post w1_tasks w1_ties v_weight_1 v_after_2 v_before_3 v_placeOf_4 v_taskAt_5
set_option maxHeartbeats 4000000 in
set_option maxRecDepth 100000 in
theorem c_X2_copyFrom (l : Launch) (D : va_G) (cI cJ cZ cO : ClassId) (o : Nat) (o_weight : Nat) (o_after : Nat) (o_before : Nat) (o_placeOf : Nat) (o_taskAt : Nat) (q1 : Nat) (q1_weight : Nat) (q1_after : Nat) (q1_before : Nat) (q1_placeOf : Nat) (q1_taskAt : Nat) (v_tasks : Int32) (v_ties : Int32) (v_weight : Nat → Int32) (v_after : Nat → Int64) (v_before : Nat → Int64) (v_placeOf : Nat → Int32) (v_taskAt : Nat → Int32) (w1_tasks : Int32) (w1_ties : Int32) (w1_weight : Nat → Int32) (w1_after : Nat → Int64) (w1_before : Nat → Int64) (w1_placeOf : Nat → Int32) (w1_taskAt : Nat → Int32) (post : (Int32) → (Int32) → (Nat → Int32) → (Nat → Int64) → (Nat → Int64) → (Nat → Int32) → (Nat → Int32) → Prop) (hw : wp_X2_copyFrom v_tasks v_ties v_weight v_after v_before v_placeOf v_taskAt w1_tasks w1_ties w1_weight w1_after w1_before w1_placeOf w1_taskAt post) : gb_Cv D cI cJ cZ cO l yX2_copyFrom wsX2_copyFrom ({ frames := 1, cells := 0, slots := 0, locals := 64 }) [.ref o, .ref q1] [(o, .inr (2, [.ref o_weight, .ref o_after, .ref o_before, .ref o_placeOf, .ref o_taskAt, .int v_tasks, .int v_ties])), (o_weight, .inl (cI, 60, .inl v_weight)), (o_after, .inl (cJ, 60, .inr (.inl v_after))), (o_before, .inl (cJ, 60, .inr (.inl v_before))), (o_placeOf, .inl (cI, 60, .inl v_placeOf)), (o_taskAt, .inl (cI, 60, .inl v_taskAt)), (q1, .inr (2, [.ref q1_weight, .ref q1_after, .ref q1_before, .ref q1_placeOf, .ref q1_taskAt, .int w1_tasks, .int w1_ties])), (q1_weight, .inl (cI, 60, .inl w1_weight)), (q1_after, .inl (cJ, 60, .inr (.inl w1_after))), (q1_before, .inl (cJ, 60, .inr (.inl w1_before))), (q1_placeOf, .inl (cI, 60, .inl w1_placeOf)), (q1_taskAt, .inl (cI, 60, .inl w1_taskAt))] (fun u : (Int32) × (Int32) × (Nat → Int32) × (Nat → Int64) × (Nat → Int64) × (Nat → Int32) × (Nat → Int32) => post u.1 u.2.1 u.2.2.1 u.2.2.2.1 u.2.2.2.2.1 u.2.2.2.2.2.1 u.2.2.2.2.2.2) (fun u : (Int32) × (Int32) × (Nat → Int32) × (Nat → Int64) × (Nat → Int64) × (Nat → Int32) × (Nat → Int32) => [(o, .inr (2, [.ref o_weight, .ref o_after, .ref o_before, .ref o_placeOf, .ref o_taskAt, .int u.1, .int u.2.1])), (o_weight, .inl (cI, 60, .inl u.2.2.1)), (o_after, .inl (cJ, 60, .inr (.inl u.2.2.2.1))), (o_before, .inl (cJ, 60, .inr (.inl u.2.2.2.2.1))), (o_placeOf, .inl (cI, 60, .inl u.2.2.2.2.2.1)), (o_taskAt, .inl (cI, 60, .inl u.2.2.2.2.2.2)), (q1, .inr (2, [.ref q1_weight, .ref q1_after, .ref q1_before, .ref q1_placeOf, .ref q1_taskAt, .int w1_tasks, .int w1_ties])), (q1_weight, .inl (cI, 60, .inl w1_weight)), (q1_after, .inl (cJ, 60, .inr (.inl w1_after))), (q1_before, .inl (cJ, 60, .inr (.inl w1_before))), (q1_placeOf, .inl (cI, 60, .inl w1_placeOf)), (q1_taskAt, .inl (cI, 60, .inl w1_taskAt))]) 0 0 := by
  refine gb_mv (cc := cX2_copyFrom) (maxL := 2) (ret := none) (by decide) rfl (Nat.le_of_ble_eq_true rfl) ?_
  · intro p e s m below meth c A C hP hD hS ls hl
    obtain ⟨hx, hb, hr, hml, hown, hts, hlocks, hnm, hK, hA⟩ := id C
    replace hown : s.vm.findClass RX2 = some m.cls := hown
    have h := hw
    unfold wp_X2_copyFrom at h
    replace hl : lv_has ls 2 [(0, .ref o), (1, .ref q1)] := hl
    refine lv_aload_n hx hb dX2_copyFrom_0 rfl (lv_at hl 1 rfl) ?_
    refine va_get (D := D) (ci := 2) (v := .ref q1_weight) (C := RX2) (T := TX2) (N := 7) hx hb hts in_X2_copyFrom_X2 hown hK.1 hP 6 rfl rfl 0 (by decide) (hts (.fieldLink RX2 9 "OrderKeeper$Net" "weight" "[I") (List.mem_of_getElem? (i := 1) rfl)) (fun _ h9 => h9) rfl dX2_copyFrom_1 ?_
    refine lv_iconst (v := 0) hx hb dX2_copyFrom_4 (by decide) ?_
    refine lv_aload_n hx hb dX2_copyFrom_5 rfl (lv_at hl 0 rfl) ?_
    refine va_get (D := D) (ci := 2) (v := .ref o_weight) (C := RX2) (T := TX2) (N := 7) hx hb hts in_X2_copyFrom_X2 hown hK.1 hP 0 rfl rfl 0 (by decide) (hts (.fieldLink RX2 9 "OrderKeeper$Net" "weight" "[I") (List.mem_of_getElem? (i := 1) rfl)) (fun _ h9 => h9) rfl dX2_copyFrom_6 ?_
    refine lv_iconst (v := 0) hx hb dX2_copyFrom_9 (by decide) ?_
    refine lv_bipush (v := 60) hx hb dX2_copyFrom_10 (by decide) ?_
    obtain ⟨v_weight_1, ev_weight_1⟩ : ∃ z : Nat → Int32, z = va_cpy w1_weight v_weight 0 0 60 := ⟨_, rfl⟩
    refine va_copyi hx hb (hml.trans hl.1.symm) hown (hts (.methodLink RX2 28 arraycopyName) (List.mem_of_getElem? (i := 2) rfl)) (hts (.native arraycopyName) (List.mem_of_getElem? (i := 3) rfl)) (hts (.static arraycopyName) (List.mem_of_getElem? (i := 4) rfl)) (hts (.initialized "java/lang/System") (List.mem_of_getElem? (i := 5) rfl)) hK.1 hP hD hS 7 1 0 0 rfl rfl rfl rfl (ty := .int) rfl (by decide) (by decide) (by decide) (by decide) (by decide) (fun _ _ => rfl) (by decide) (by decide) dX2_copyFrom_12 (fun H locs hP hD hS => ?_)
    replace hP : va_P D vwCl [(o, .inr (2, [.ref o_weight, .ref o_after, .ref o_before, .ref o_placeOf, .ref o_taskAt, .int v_tasks, .int v_ties])), (o_weight, .inl (cI, 60, .inl v_weight_1)), (o_after, .inl (cJ, 60, .inr (.inl v_after))), (o_before, .inl (cJ, 60, .inr (.inl v_before))), (o_placeOf, .inl (cI, 60, .inl v_placeOf)), (o_taskAt, .inl (cI, 60, .inl v_taskAt)), (q1, .inr (2, [.ref q1_weight, .ref q1_after, .ref q1_before, .ref q1_placeOf, .ref q1_taskAt, .int w1_tasks, .int w1_ties])), (q1_weight, .inl (cI, 60, .inl w1_weight)), (q1_after, .inl (cJ, 60, .inr (.inl w1_after))), (q1_before, .inl (cJ, 60, .inr (.inl w1_before))), (q1_placeOf, .inl (cI, 60, .inl w1_placeOf)), (q1_taskAt, .inl (cI, 60, .inl w1_taskAt))] H := by rw [ev_weight_1]; exact hP
    replace hD : va_D A [(o, .inr (2, [.ref o_weight, .ref o_after, .ref o_before, .ref o_placeOf, .ref o_taskAt, .int v_tasks, .int v_ties])), (o_weight, .inl (cI, 60, .inl v_weight_1)), (o_after, .inl (cJ, 60, .inr (.inl v_after))), (o_before, .inl (cJ, 60, .inr (.inl v_before))), (o_placeOf, .inl (cI, 60, .inl v_placeOf)), (o_taskAt, .inl (cI, 60, .inl v_taskAt)), (q1, .inr (2, [.ref q1_weight, .ref q1_after, .ref q1_before, .ref q1_placeOf, .ref q1_taskAt, .int w1_tasks, .int w1_ties])), (q1_weight, .inl (cI, 60, .inl w1_weight)), (q1_after, .inl (cJ, 60, .inr (.inl w1_after))), (q1_before, .inl (cJ, 60, .inr (.inl w1_before))), (q1_placeOf, .inl (cI, 60, .inl w1_placeOf)), (q1_taskAt, .inl (cI, 60, .inl w1_taskAt))] := by rw [ev_weight_1]; exact hD
    replace h := h v_weight_1 ev_weight_1
    refine lv_aload_n hx hb dX2_copyFrom_15 rfl (lv_at hl 1 rfl) ?_
    refine va_get (D := D) (ci := 2) (v := .ref q1_after) (C := RX2) (T := TX2) (N := 7) hx hb hts in_X2_copyFrom_X2 hown hK.1 hP 6 rfl rfl 1 (by decide) (hts (.fieldLink RX2 15 "OrderKeeper$Net" "after" "[J") (List.mem_of_getElem? (i := 6) rfl)) (fun _ h9 => h9) rfl dX2_copyFrom_16 ?_
    refine lv_iconst (v := 0) hx hb dX2_copyFrom_19 (by decide) ?_
    refine lv_aload_n hx hb dX2_copyFrom_20 rfl (lv_at hl 0 rfl) ?_
    refine va_get (D := D) (ci := 2) (v := .ref o_after) (C := RX2) (T := TX2) (N := 7) hx hb hts in_X2_copyFrom_X2 hown hK.1 hP 0 rfl rfl 1 (by decide) (hts (.fieldLink RX2 15 "OrderKeeper$Net" "after" "[J") (List.mem_of_getElem? (i := 6) rfl)) (fun _ h9 => h9) rfl dX2_copyFrom_21 ?_
    refine lv_iconst (v := 0) hx hb dX2_copyFrom_24 (by decide) ?_
    refine lv_bipush (v := 60) hx hb dX2_copyFrom_25 (by decide) ?_
    obtain ⟨v_after_2, ev_after_2⟩ : ∃ z : Nat → Int64, z = va_cpy w1_after v_after 0 0 60 := ⟨_, rfl⟩
    refine va_copyl hx hb (hml.trans hl.1.symm) hown (hts (.methodLink RX2 28 arraycopyName) (List.mem_of_getElem? (i := 2) rfl)) (hts (.native arraycopyName) (List.mem_of_getElem? (i := 3) rfl)) (hts (.static arraycopyName) (List.mem_of_getElem? (i := 4) rfl)) (hts (.initialized "java/lang/System") (List.mem_of_getElem? (i := 5) rfl)) hK.1 hP hD hS 8 2 1 1 rfl rfl rfl rfl (ty := .long) rfl (by decide) (by decide) (by decide) (by decide) (by decide) (fun _ _ => rfl) (by decide) (by decide) dX2_copyFrom_27 (fun H locs hP hD hS => ?_)
    replace hP : va_P D vwCl [(o, .inr (2, [.ref o_weight, .ref o_after, .ref o_before, .ref o_placeOf, .ref o_taskAt, .int v_tasks, .int v_ties])), (o_weight, .inl (cI, 60, .inl v_weight_1)), (o_after, .inl (cJ, 60, .inr (.inl v_after_2))), (o_before, .inl (cJ, 60, .inr (.inl v_before))), (o_placeOf, .inl (cI, 60, .inl v_placeOf)), (o_taskAt, .inl (cI, 60, .inl v_taskAt)), (q1, .inr (2, [.ref q1_weight, .ref q1_after, .ref q1_before, .ref q1_placeOf, .ref q1_taskAt, .int w1_tasks, .int w1_ties])), (q1_weight, .inl (cI, 60, .inl w1_weight)), (q1_after, .inl (cJ, 60, .inr (.inl w1_after))), (q1_before, .inl (cJ, 60, .inr (.inl w1_before))), (q1_placeOf, .inl (cI, 60, .inl w1_placeOf)), (q1_taskAt, .inl (cI, 60, .inl w1_taskAt))] H := by rw [ev_after_2]; exact hP
    replace hD : va_D A [(o, .inr (2, [.ref o_weight, .ref o_after, .ref o_before, .ref o_placeOf, .ref o_taskAt, .int v_tasks, .int v_ties])), (o_weight, .inl (cI, 60, .inl v_weight_1)), (o_after, .inl (cJ, 60, .inr (.inl v_after_2))), (o_before, .inl (cJ, 60, .inr (.inl v_before))), (o_placeOf, .inl (cI, 60, .inl v_placeOf)), (o_taskAt, .inl (cI, 60, .inl v_taskAt)), (q1, .inr (2, [.ref q1_weight, .ref q1_after, .ref q1_before, .ref q1_placeOf, .ref q1_taskAt, .int w1_tasks, .int w1_ties])), (q1_weight, .inl (cI, 60, .inl w1_weight)), (q1_after, .inl (cJ, 60, .inr (.inl w1_after))), (q1_before, .inl (cJ, 60, .inr (.inl w1_before))), (q1_placeOf, .inl (cI, 60, .inl w1_placeOf)), (q1_taskAt, .inl (cI, 60, .inl w1_taskAt))] := by rw [ev_after_2]; exact hD
    replace h := h v_after_2 ev_after_2
    refine lv_aload_n hx hb dX2_copyFrom_30 rfl (lv_at hl 1 rfl) ?_
    refine va_get (D := D) (ci := 2) (v := .ref q1_before) (C := RX2) (T := TX2) (N := 7) hx hb hts in_X2_copyFrom_X2 hown hK.1 hP 6 rfl rfl 2 (by decide) (hts (.fieldLink RX2 19 "OrderKeeper$Net" "before" "[J") (List.mem_of_getElem? (i := 7) rfl)) (fun _ h9 => h9) rfl dX2_copyFrom_31 ?_
    refine lv_iconst (v := 0) hx hb dX2_copyFrom_34 (by decide) ?_
    refine lv_aload_n hx hb dX2_copyFrom_35 rfl (lv_at hl 0 rfl) ?_
    refine va_get (D := D) (ci := 2) (v := .ref o_before) (C := RX2) (T := TX2) (N := 7) hx hb hts in_X2_copyFrom_X2 hown hK.1 hP 0 rfl rfl 2 (by decide) (hts (.fieldLink RX2 19 "OrderKeeper$Net" "before" "[J") (List.mem_of_getElem? (i := 7) rfl)) (fun _ h9 => h9) rfl dX2_copyFrom_36 ?_
    refine lv_iconst (v := 0) hx hb dX2_copyFrom_39 (by decide) ?_
    refine lv_bipush (v := 60) hx hb dX2_copyFrom_40 (by decide) ?_
    obtain ⟨v_before_3, ev_before_3⟩ : ∃ z : Nat → Int64, z = va_cpy w1_before v_before 0 0 60 := ⟨_, rfl⟩
    refine va_copyl hx hb (hml.trans hl.1.symm) hown (hts (.methodLink RX2 28 arraycopyName) (List.mem_of_getElem? (i := 2) rfl)) (hts (.native arraycopyName) (List.mem_of_getElem? (i := 3) rfl)) (hts (.static arraycopyName) (List.mem_of_getElem? (i := 4) rfl)) (hts (.initialized "java/lang/System") (List.mem_of_getElem? (i := 5) rfl)) hK.1 hP hD hS 9 3 1 1 rfl rfl rfl rfl (ty := .long) rfl (by decide) (by decide) (by decide) (by decide) (by decide) (fun _ _ => rfl) (by decide) (by decide) dX2_copyFrom_42 (fun H locs hP hD hS => ?_)
    replace hP : va_P D vwCl [(o, .inr (2, [.ref o_weight, .ref o_after, .ref o_before, .ref o_placeOf, .ref o_taskAt, .int v_tasks, .int v_ties])), (o_weight, .inl (cI, 60, .inl v_weight_1)), (o_after, .inl (cJ, 60, .inr (.inl v_after_2))), (o_before, .inl (cJ, 60, .inr (.inl v_before_3))), (o_placeOf, .inl (cI, 60, .inl v_placeOf)), (o_taskAt, .inl (cI, 60, .inl v_taskAt)), (q1, .inr (2, [.ref q1_weight, .ref q1_after, .ref q1_before, .ref q1_placeOf, .ref q1_taskAt, .int w1_tasks, .int w1_ties])), (q1_weight, .inl (cI, 60, .inl w1_weight)), (q1_after, .inl (cJ, 60, .inr (.inl w1_after))), (q1_before, .inl (cJ, 60, .inr (.inl w1_before))), (q1_placeOf, .inl (cI, 60, .inl w1_placeOf)), (q1_taskAt, .inl (cI, 60, .inl w1_taskAt))] H := by rw [ev_before_3]; exact hP
    replace hD : va_D A [(o, .inr (2, [.ref o_weight, .ref o_after, .ref o_before, .ref o_placeOf, .ref o_taskAt, .int v_tasks, .int v_ties])), (o_weight, .inl (cI, 60, .inl v_weight_1)), (o_after, .inl (cJ, 60, .inr (.inl v_after_2))), (o_before, .inl (cJ, 60, .inr (.inl v_before_3))), (o_placeOf, .inl (cI, 60, .inl v_placeOf)), (o_taskAt, .inl (cI, 60, .inl v_taskAt)), (q1, .inr (2, [.ref q1_weight, .ref q1_after, .ref q1_before, .ref q1_placeOf, .ref q1_taskAt, .int w1_tasks, .int w1_ties])), (q1_weight, .inl (cI, 60, .inl w1_weight)), (q1_after, .inl (cJ, 60, .inr (.inl w1_after))), (q1_before, .inl (cJ, 60, .inr (.inl w1_before))), (q1_placeOf, .inl (cI, 60, .inl w1_placeOf)), (q1_taskAt, .inl (cI, 60, .inl w1_taskAt))] := by rw [ev_before_3]; exact hD
    replace h := h v_before_3 ev_before_3
    refine lv_aload_n hx hb dX2_copyFrom_45 rfl (lv_at hl 1 rfl) ?_
    refine va_get (D := D) (ci := 2) (v := .ref q1_placeOf) (C := RX2) (T := TX2) (N := 7) hx hb hts in_X2_copyFrom_X2 hown hK.1 hP 6 rfl rfl 3 (by decide) (hts (.fieldLink RX2 22 "OrderKeeper$Net" "placeOf" "[I") (List.mem_of_getElem? (i := 8) rfl)) (fun _ h9 => h9) rfl dX2_copyFrom_46 ?_
    refine lv_iconst (v := 0) hx hb dX2_copyFrom_49 (by decide) ?_
    refine lv_aload_n hx hb dX2_copyFrom_50 rfl (lv_at hl 0 rfl) ?_
    refine va_get (D := D) (ci := 2) (v := .ref o_placeOf) (C := RX2) (T := TX2) (N := 7) hx hb hts in_X2_copyFrom_X2 hown hK.1 hP 0 rfl rfl 3 (by decide) (hts (.fieldLink RX2 22 "OrderKeeper$Net" "placeOf" "[I") (List.mem_of_getElem? (i := 8) rfl)) (fun _ h9 => h9) rfl dX2_copyFrom_51 ?_
    refine lv_iconst (v := 0) hx hb dX2_copyFrom_54 (by decide) ?_
    refine lv_bipush (v := 60) hx hb dX2_copyFrom_55 (by decide) ?_
    obtain ⟨v_placeOf_4, ev_placeOf_4⟩ : ∃ z : Nat → Int32, z = va_cpy w1_placeOf v_placeOf 0 0 60 := ⟨_, rfl⟩
    refine va_copyi hx hb (hml.trans hl.1.symm) hown (hts (.methodLink RX2 28 arraycopyName) (List.mem_of_getElem? (i := 2) rfl)) (hts (.native arraycopyName) (List.mem_of_getElem? (i := 3) rfl)) (hts (.static arraycopyName) (List.mem_of_getElem? (i := 4) rfl)) (hts (.initialized "java/lang/System") (List.mem_of_getElem? (i := 5) rfl)) hK.1 hP hD hS 10 4 0 0 rfl rfl rfl rfl (ty := .int) rfl (by decide) (by decide) (by decide) (by decide) (by decide) (fun _ _ => rfl) (by decide) (by decide) dX2_copyFrom_57 (fun H locs hP hD hS => ?_)
    replace hP : va_P D vwCl [(o, .inr (2, [.ref o_weight, .ref o_after, .ref o_before, .ref o_placeOf, .ref o_taskAt, .int v_tasks, .int v_ties])), (o_weight, .inl (cI, 60, .inl v_weight_1)), (o_after, .inl (cJ, 60, .inr (.inl v_after_2))), (o_before, .inl (cJ, 60, .inr (.inl v_before_3))), (o_placeOf, .inl (cI, 60, .inl v_placeOf_4)), (o_taskAt, .inl (cI, 60, .inl v_taskAt)), (q1, .inr (2, [.ref q1_weight, .ref q1_after, .ref q1_before, .ref q1_placeOf, .ref q1_taskAt, .int w1_tasks, .int w1_ties])), (q1_weight, .inl (cI, 60, .inl w1_weight)), (q1_after, .inl (cJ, 60, .inr (.inl w1_after))), (q1_before, .inl (cJ, 60, .inr (.inl w1_before))), (q1_placeOf, .inl (cI, 60, .inl w1_placeOf)), (q1_taskAt, .inl (cI, 60, .inl w1_taskAt))] H := by rw [ev_placeOf_4]; exact hP
    replace hD : va_D A [(o, .inr (2, [.ref o_weight, .ref o_after, .ref o_before, .ref o_placeOf, .ref o_taskAt, .int v_tasks, .int v_ties])), (o_weight, .inl (cI, 60, .inl v_weight_1)), (o_after, .inl (cJ, 60, .inr (.inl v_after_2))), (o_before, .inl (cJ, 60, .inr (.inl v_before_3))), (o_placeOf, .inl (cI, 60, .inl v_placeOf_4)), (o_taskAt, .inl (cI, 60, .inl v_taskAt)), (q1, .inr (2, [.ref q1_weight, .ref q1_after, .ref q1_before, .ref q1_placeOf, .ref q1_taskAt, .int w1_tasks, .int w1_ties])), (q1_weight, .inl (cI, 60, .inl w1_weight)), (q1_after, .inl (cJ, 60, .inr (.inl w1_after))), (q1_before, .inl (cJ, 60, .inr (.inl w1_before))), (q1_placeOf, .inl (cI, 60, .inl w1_placeOf)), (q1_taskAt, .inl (cI, 60, .inl w1_taskAt))] := by rw [ev_placeOf_4]; exact hD
    replace h := h v_placeOf_4 ev_placeOf_4
    refine lv_aload_n hx hb dX2_copyFrom_60 rfl (lv_at hl 1 rfl) ?_
    refine va_get (D := D) (ci := 2) (v := .ref q1_taskAt) (C := RX2) (T := TX2) (N := 7) hx hb hts in_X2_copyFrom_X2 hown hK.1 hP 6 rfl rfl 4 (by decide) (hts (.fieldLink RX2 25 "OrderKeeper$Net" "taskAt" "[I") (List.mem_of_getElem? (i := 9) rfl)) (fun _ h9 => h9) rfl dX2_copyFrom_61 ?_
    refine lv_iconst (v := 0) hx hb dX2_copyFrom_64 (by decide) ?_
    refine lv_aload_n hx hb dX2_copyFrom_65 rfl (lv_at hl 0 rfl) ?_
    refine va_get (D := D) (ci := 2) (v := .ref o_taskAt) (C := RX2) (T := TX2) (N := 7) hx hb hts in_X2_copyFrom_X2 hown hK.1 hP 0 rfl rfl 4 (by decide) (hts (.fieldLink RX2 25 "OrderKeeper$Net" "taskAt" "[I") (List.mem_of_getElem? (i := 9) rfl)) (fun _ h9 => h9) rfl dX2_copyFrom_66 ?_
    refine lv_iconst (v := 0) hx hb dX2_copyFrom_69 (by decide) ?_
    refine lv_bipush (v := 60) hx hb dX2_copyFrom_70 (by decide) ?_
    obtain ⟨v_taskAt_5, ev_taskAt_5⟩ : ∃ z : Nat → Int32, z = va_cpy w1_taskAt v_taskAt 0 0 60 := ⟨_, rfl⟩
    refine va_copyi hx hb (hml.trans hl.1.symm) hown (hts (.methodLink RX2 28 arraycopyName) (List.mem_of_getElem? (i := 2) rfl)) (hts (.native arraycopyName) (List.mem_of_getElem? (i := 3) rfl)) (hts (.static arraycopyName) (List.mem_of_getElem? (i := 4) rfl)) (hts (.initialized "java/lang/System") (List.mem_of_getElem? (i := 5) rfl)) hK.1 hP hD hS 11 5 0 0 rfl rfl rfl rfl (ty := .int) rfl (by decide) (by decide) (by decide) (by decide) (by decide) (fun _ _ => rfl) (by decide) (by decide) dX2_copyFrom_72 (fun H locs hP hD hS => ?_)
    replace hP : va_P D vwCl [(o, .inr (2, [.ref o_weight, .ref o_after, .ref o_before, .ref o_placeOf, .ref o_taskAt, .int v_tasks, .int v_ties])), (o_weight, .inl (cI, 60, .inl v_weight_1)), (o_after, .inl (cJ, 60, .inr (.inl v_after_2))), (o_before, .inl (cJ, 60, .inr (.inl v_before_3))), (o_placeOf, .inl (cI, 60, .inl v_placeOf_4)), (o_taskAt, .inl (cI, 60, .inl v_taskAt_5)), (q1, .inr (2, [.ref q1_weight, .ref q1_after, .ref q1_before, .ref q1_placeOf, .ref q1_taskAt, .int w1_tasks, .int w1_ties])), (q1_weight, .inl (cI, 60, .inl w1_weight)), (q1_after, .inl (cJ, 60, .inr (.inl w1_after))), (q1_before, .inl (cJ, 60, .inr (.inl w1_before))), (q1_placeOf, .inl (cI, 60, .inl w1_placeOf)), (q1_taskAt, .inl (cI, 60, .inl w1_taskAt))] H := by rw [ev_taskAt_5]; exact hP
    replace hD : va_D A [(o, .inr (2, [.ref o_weight, .ref o_after, .ref o_before, .ref o_placeOf, .ref o_taskAt, .int v_tasks, .int v_ties])), (o_weight, .inl (cI, 60, .inl v_weight_1)), (o_after, .inl (cJ, 60, .inr (.inl v_after_2))), (o_before, .inl (cJ, 60, .inr (.inl v_before_3))), (o_placeOf, .inl (cI, 60, .inl v_placeOf_4)), (o_taskAt, .inl (cI, 60, .inl v_taskAt_5)), (q1, .inr (2, [.ref q1_weight, .ref q1_after, .ref q1_before, .ref q1_placeOf, .ref q1_taskAt, .int w1_tasks, .int w1_ties])), (q1_weight, .inl (cI, 60, .inl w1_weight)), (q1_after, .inl (cJ, 60, .inr (.inl w1_after))), (q1_before, .inl (cJ, 60, .inr (.inl w1_before))), (q1_placeOf, .inl (cI, 60, .inl w1_placeOf)), (q1_taskAt, .inl (cI, 60, .inl w1_taskAt))] := by rw [ev_taskAt_5]; exact hD
    replace h := h v_taskAt_5 ev_taskAt_5
    refine lv_aload_n hx hb dX2_copyFrom_75 rfl (lv_at hl 0 rfl) ?_
    refine lv_aload_n hx hb dX2_copyFrom_76 rfl (lv_at hl 1 rfl) ?_
    refine va_get (D := D) (ci := 2) (v := .int w1_tasks) (C := RX2) (T := TX2) (N := 7) hx hb hts in_X2_copyFrom_X2 hown hK.1 hP 6 rfl rfl 5 (by decide) (hts (.fieldLink RX2 34 "OrderKeeper$Net" "tasks" "I") (List.mem_of_getElem? (i := 10) rfl)) (fun _ h9 => h9) rfl dX2_copyFrom_77 ?_
    refine va_put (D := D) (ci := 2) (v := .int w1_tasks) (ty := .int) (C := RX2) (T := TX2) (N := 7) hx hb hts in_X2_copyFrom_X2 tyX2 tyX2_ok nmX2 hown hK.1 hP hD hS 0 rfl rfl 5 (by decide) (hts (.fieldLink RX2 34 "OrderKeeper$Net" "tasks" "I") (List.mem_of_getElem? (i := 10) rfl)) (fun _ h9 => h9) rfl (tyX2_ok 5 (by decide)) rfl rfl (Nat.le_of_ble_eq_true rfl) dX2_copyFrom_80 (fun H locs hP hD hS => ?_)
    replace hP : va_P D vwCl [(o, .inr (2, [.ref o_weight, .ref o_after, .ref o_before, .ref o_placeOf, .ref o_taskAt, .int w1_tasks, .int v_ties])), (o_weight, .inl (cI, 60, .inl v_weight_1)), (o_after, .inl (cJ, 60, .inr (.inl v_after_2))), (o_before, .inl (cJ, 60, .inr (.inl v_before_3))), (o_placeOf, .inl (cI, 60, .inl v_placeOf_4)), (o_taskAt, .inl (cI, 60, .inl v_taskAt_5)), (q1, .inr (2, [.ref q1_weight, .ref q1_after, .ref q1_before, .ref q1_placeOf, .ref q1_taskAt, .int w1_tasks, .int w1_ties])), (q1_weight, .inl (cI, 60, .inl w1_weight)), (q1_after, .inl (cJ, 60, .inr (.inl w1_after))), (q1_before, .inl (cJ, 60, .inr (.inl w1_before))), (q1_placeOf, .inl (cI, 60, .inl w1_placeOf)), (q1_taskAt, .inl (cI, 60, .inl w1_taskAt))] H := hP
    replace hD : va_D A [(o, .inr (2, [.ref o_weight, .ref o_after, .ref o_before, .ref o_placeOf, .ref o_taskAt, .int w1_tasks, .int v_ties])), (o_weight, .inl (cI, 60, .inl v_weight_1)), (o_after, .inl (cJ, 60, .inr (.inl v_after_2))), (o_before, .inl (cJ, 60, .inr (.inl v_before_3))), (o_placeOf, .inl (cI, 60, .inl v_placeOf_4)), (o_taskAt, .inl (cI, 60, .inl v_taskAt_5)), (q1, .inr (2, [.ref q1_weight, .ref q1_after, .ref q1_before, .ref q1_placeOf, .ref q1_taskAt, .int w1_tasks, .int w1_ties])), (q1_weight, .inl (cI, 60, .inl w1_weight)), (q1_after, .inl (cJ, 60, .inr (.inl w1_after))), (q1_before, .inl (cJ, 60, .inr (.inl w1_before))), (q1_placeOf, .inl (cI, 60, .inl w1_placeOf)), (q1_taskAt, .inl (cI, 60, .inl w1_taskAt))] := hD
    refine lv_aload_n hx hb dX2_copyFrom_83 rfl (lv_at hl 0 rfl) ?_
    refine lv_aload_n hx hb dX2_copyFrom_84 rfl (lv_at hl 1 rfl) ?_
    refine va_get (D := D) (ci := 2) (v := .int w1_ties) (C := RX2) (T := TX2) (N := 7) hx hb hts in_X2_copyFrom_X2 hown hK.1 hP 6 rfl rfl 6 (by decide) (hts (.fieldLink RX2 38 "OrderKeeper$Net" "ties" "I") (List.mem_of_getElem? (i := 11) rfl)) (fun _ h9 => h9) rfl dX2_copyFrom_85 ?_
    refine va_put (D := D) (ci := 2) (v := .int w1_ties) (ty := .int) (C := RX2) (T := TX2) (N := 7) hx hb hts in_X2_copyFrom_X2 tyX2 tyX2_ok nmX2 hown hK.1 hP hD hS 0 rfl rfl 6 (by decide) (hts (.fieldLink RX2 38 "OrderKeeper$Net" "ties" "I") (List.mem_of_getElem? (i := 11) rfl)) (fun _ h9 => h9) rfl (tyX2_ok 6 (by decide)) rfl rfl (Nat.le_of_ble_eq_true rfl) dX2_copyFrom_88 (fun H locs hP hD hS => ?_)
    replace hP : va_P D vwCl [(o, .inr (2, [.ref o_weight, .ref o_after, .ref o_before, .ref o_placeOf, .ref o_taskAt, .int w1_tasks, .int w1_ties])), (o_weight, .inl (cI, 60, .inl v_weight_1)), (o_after, .inl (cJ, 60, .inr (.inl v_after_2))), (o_before, .inl (cJ, 60, .inr (.inl v_before_3))), (o_placeOf, .inl (cI, 60, .inl v_placeOf_4)), (o_taskAt, .inl (cI, 60, .inl v_taskAt_5)), (q1, .inr (2, [.ref q1_weight, .ref q1_after, .ref q1_before, .ref q1_placeOf, .ref q1_taskAt, .int w1_tasks, .int w1_ties])), (q1_weight, .inl (cI, 60, .inl w1_weight)), (q1_after, .inl (cJ, 60, .inr (.inl w1_after))), (q1_before, .inl (cJ, 60, .inr (.inl w1_before))), (q1_placeOf, .inl (cI, 60, .inl w1_placeOf)), (q1_taskAt, .inl (cI, 60, .inl w1_taskAt))] H := hP
    replace hD : va_D A [(o, .inr (2, [.ref o_weight, .ref o_after, .ref o_before, .ref o_placeOf, .ref o_taskAt, .int w1_tasks, .int w1_ties])), (o_weight, .inl (cI, 60, .inl v_weight_1)), (o_after, .inl (cJ, 60, .inr (.inl v_after_2))), (o_before, .inl (cJ, 60, .inr (.inl v_before_3))), (o_placeOf, .inl (cI, 60, .inl v_placeOf_4)), (o_taskAt, .inl (cI, 60, .inl v_taskAt_5)), (q1, .inr (2, [.ref q1_weight, .ref q1_after, .ref q1_before, .ref q1_placeOf, .ref q1_taskAt, .int w1_tasks, .int w1_ties])), (q1_weight, .inl (cI, 60, .inl w1_weight)), (q1_after, .inl (cJ, 60, .inr (.inl w1_after))), (q1_before, .inl (cJ, 60, .inr (.inl w1_before))), (q1_placeOf, .inl (cI, 60, .inl w1_placeOf)), (q1_taskAt, .inl (cI, 60, .inl w1_taskAt))] := hD
    exact gb_retv C (w1_tasks, w1_ties, v_weight_1, v_after_2, v_before_3, v_placeOf_4, v_taskAt_5) (hP.sub [0, 1, 2, 3, 4, 5, 6, 7, 8, 9, 10, 11] rfl) (hD.sub [0, 1, 2, 3, 4, 5, 6, 7, 8, 9, 10, 11] (by decide) rfl) hS h dX2_copyFrom_91
/-! OrderKeeper$Net.leadsTo(II)Z -/
theorem in_X2_leadsTo_X2 : ∀ w ∈ wsX20, w ∈ wsX2_leadsTo := fun _ h => List.mem_cons_of_mem _ (List.mem_append_right _ h)
theorem hdS_X2_leadsTo : yX2_leadsTo.cls ≠ "java/lang/invoke/MethodHandle" ∧ yX2_leadsTo.cls ≠ "java/lang/invoke/VarHandle" ∧ (parseMethodDescriptor yX2_leadsTo.desc).map (fun d => d.parameters.length) = some 2 := by decide +kernel
theorem hdV_X2_leadsTo : yX2_leadsTo.cls = RX2 ∧ yX2_leadsTo.cls ≠ "java/lang/invoke/MethodHandle" ∧ yX2_leadsTo.cls ≠ "java/lang/invoke/VarHandle" ∧ (parseMethodDescriptor yX2_leadsTo.desc).map (fun d => d.parameters.length) = some 2 := ⟨rfl, hdS_X2_leadsTo⟩
theorem cw_X2_leadsTo_45 {R : Room} {s : State} {args : Array Value} (hts : ∀ w ∈ wsX2_leadsTo, w.before args s = true) (hN : gb_N s) (hR : 0 + 1 ≤ R.frames ∧ 8 + (3 + 11) + 0 ≤ R.locals) : va_CN R s args RX2 45 yX7_has "OrderKeeper" cX7_has 3 (some .boolean) wsX7_has ({ frames := 0, cells := 0, slots := 0, locals := 0 }) 0 0 2 ∧ (Cond.static yX7_has).before args s = true ∧ True := ⟨va_cnB 2 hts gX2_leadsTo_X7_has_n45 rfl rfl rfl (hN.1 (RX2, 45, yX7_has, "OrderKeeper") (List.mem_of_getElem? (i := 8) rfl)) (hts (.initialized RX7) (List.mem_of_getElem? (i := 8) rfl)) hdS_X7_has hR, (hts (.static yX7_has) (List.mem_of_getElem? (i := 16) rfl)), trivial⟩
theorem cw_X2_leadsTo_59 {R : Room} {s : State} {args : Array Value} (hts : ∀ w ∈ wsX2_leadsTo, w.before args s = true) (hR : 2 + 1 ≤ R.frames ∧ 8 + (3 + 11) + 48 ≤ R.locals) : CallW R s args RX2 RX2 59 yX2_reachedFrom cX2_reachedFrom 3 (some .long) wsX2_reachedFrom ({ frames := 2, cells := 0, slots := 0, locals := 48 }) 0 0 2 := cwV 2 hts gX2_leadsTo_X2_reachedFrom rfl rfl rfl hdV_X2_reachedFrom hR
def wp_X2_leadsTo (v_before : Nat → Int64) (v_placeOf : Nat → Int32) (v_taskAt : Nat → Int32) (a1 : Int32) (a2 : Int32) (post : Int32 → Prop) : Prop := vp_in a2 60 ∧ wp_X2_reachedFrom v_before v_placeOf v_taskAt a1 (v_placeOf a2.toNatClampNeg) (fun (r_2 : Int64) => wp_X7_has r_2 a2 (fun (r_3 : Int32) => (r_3 = 0 ∨ r_3 = 1) ∧ post r_3))
set_option maxHeartbeats 4000000 in
set_option maxRecDepth 100000 in
theorem c_X2_leadsTo (l : Launch) (D : va_G) (cI cJ cZ cO : ClassId) (o : Nat) (o_weight : Nat) (o_after : Nat) (o_before : Nat) (o_placeOf : Nat) (o_taskAt : Nat) (v_tasks : Int32) (v_ties : Int32) (v_before : Nat → Int64) (v_placeOf : Nat → Int32) (v_taskAt : Nat → Int32) (a1 : Int32) (a2 : Int32) (post : Int32 → Prop) (hw : wp_X2_leadsTo v_before v_placeOf v_taskAt a1 a2 post) : gb_Ci D cI cJ cZ cO l yX2_leadsTo wsX2_leadsTo ({ frames := 3, cells := 0, slots := 0, locals := 70 }) [.ref o, .int a1, .int a2] [(o, .inr (2, [.ref o_weight, .ref o_after, .ref o_before, .ref o_placeOf, .ref o_taskAt, .int v_tasks, .int v_ties])), (o_before, .inl (cJ, 60, .inr (.inl v_before))), (o_placeOf, .inl (cI, 60, .inl v_placeOf)), (o_taskAt, .inl (cI, 60, .inl v_taskAt))] (fun (r : Int32) (_ : Unit) => post r ) (fun _ : Unit => [(o, .inr (2, [.ref o_weight, .ref o_after, .ref o_before, .ref o_placeOf, .ref o_taskAt, .int v_tasks, .int v_ties])), (o_before, .inl (cJ, 60, .inr (.inl v_before))), (o_placeOf, .inl (cI, 60, .inl v_placeOf)), (o_taskAt, .inl (cI, 60, .inl v_taskAt))]) 0 0 := by
  refine gb_mi (cc := cX2_leadsTo) (maxL := 3) (ret := (some .boolean)) (by decide) rfl (Nat.le_of_ble_eq_true rfl) ?_
  · intro p e s m below meth c A C hP hD hS ls hl
    obtain ⟨hx, hb, hr, hml, hown, hts, hlocks, hnm, hK, hA⟩ := id C
    replace hown : s.vm.findClass RX2 = some m.cls := hown
    have h := hw
    unfold wp_X2_leadsTo at h
    replace hl : lv_has ls 3 [(0, .ref o), (1, .int a1), (2, .int a2)] := hl
    refine lv_aload_n hx hb dX2_leadsTo_0 rfl (lv_at hl 0 rfl) ?_
    refine lv_iload_n hx hb dX2_leadsTo_1 rfl (lv_at hl 1 rfl) ?_
    refine lv_aload_n hx hb dX2_leadsTo_2 rfl (lv_at hl 0 rfl) ?_
    refine va_get (D := D) (ci := 2) (v := .ref o_placeOf) (C := RX2) (T := TX2) (N := 7) hx hb hts in_X2_leadsTo_X2 hown hK.1 hP 0 rfl rfl 3 (by decide) (hts (.fieldLink RX2 22 "OrderKeeper$Net" "placeOf" "[I") (List.mem_of_getElem? (i := 1) rfl)) (fun _ h9 => h9) rfl dX2_leadsTo_3 ?_
    refine lv_iload_n hx hb dX2_leadsTo_6 rfl (lv_at hl 2 rfl) ?_
    obtain ⟨hi1, h⟩ := h
    refine va_iald hx hb hK.1 hP 2 0 rfl rfl hi1 dX2_leadsTo_7 ?_
    refine gb_kl (wc := [(o, .inr (2, [.ref o_weight, .ref o_after, .ref o_before, .ref o_placeOf, .ref o_taskAt, .int v_tasks, .int v_ties])), (o_before, .inl (cJ, 60, .inr (.inl v_before))), (o_placeOf, .inl (cI, 60, .inl v_placeOf)), (o_taskAt, .inl (cI, 60, .inl v_taskAt))]) (wr := []) C hP hD hS [0, 1, 2, 3] [] rfl rfl (by decide) (gb_rV (As := [.int a1, .int (v_placeOf a2.toNatClampNeg)]) (rest := []) C ((c_X2_reachedFrom l D cI cJ cZ cO o o_weight o_after o_before o_placeOf o_taskAt v_tasks v_ties v_before v_placeOf v_taskAt a1 (v_placeOf a2.toNatClampNeg) _ h) _) rfl (cw_X2_leadsTo_59 hts ⟨Nat.le_of_ble_eq_true rfl, Nat.le_of_ble_eq_true rfl⟩) (ci := 2) (q0 := 0) rfl rfl rfl rfl hl.1 rfl (Nat.le_of_ble_eq_true rfl) dX2_leadsTo_8 ⟨Nat.zero_le _, Nat.zero_le _⟩) ?_
    rintro r_2 _ H locs h hP hD hS
    try dsimp only at h
    replace hP : va_P D vwCl [(o, .inr (2, [.ref o_weight, .ref o_after, .ref o_before, .ref o_placeOf, .ref o_taskAt, .int v_tasks, .int v_ties])), (o_before, .inl (cJ, 60, .inr (.inl v_before))), (o_placeOf, .inl (cI, 60, .inl v_placeOf)), (o_taskAt, .inl (cI, 60, .inl v_taskAt))] H := hP
    replace hD : va_D A [(o, .inr (2, [.ref o_weight, .ref o_after, .ref o_before, .ref o_placeOf, .ref o_taskAt, .int v_tasks, .int v_ties])), (o_before, .inl (cJ, 60, .inr (.inl v_before))), (o_placeOf, .inl (cI, 60, .inl v_placeOf)), (o_taskAt, .inl (cI, 60, .inl v_taskAt))] := hD
    refine lv_iload_n hx hb dX2_leadsTo_11 rfl (lv_at hl 2 rfl) ?_
    refine gb_ki (wc := []) (wr := [(o, .inr (2, [.ref o_weight, .ref o_after, .ref o_before, .ref o_placeOf, .ref o_taskAt, .int v_tasks, .int v_ties])), (o_before, .inl (cJ, 60, .inr (.inl v_before))), (o_placeOf, .inl (cI, 60, .inl v_placeOf)), (o_taskAt, .inl (cI, 60, .inl v_taskAt))]) C hP hD hS [] [0, 1, 2, 3] rfl rfl (by decide) (gb_rSN (As := [.long r_2, .int a2]) (rest := []) C ((c_X7_has l D cI cJ cZ cO r_2 a2 _ h) _) rfl (cw_X2_leadsTo_45 hts hK.2 ⟨Nat.le_of_ble_eq_true rfl, Nat.le_of_ble_eq_true rfl⟩) rfl hl.1 rfl (Nat.le_of_ble_eq_true rfl) dX2_leadsTo_12 ⟨Nat.zero_le _, Nat.zero_le _⟩) ?_
    rintro r_3 _ H locs h hP hD hS
    try dsimp only at h
    replace hP : va_P D vwCl [(o, .inr (2, [.ref o_weight, .ref o_after, .ref o_before, .ref o_placeOf, .ref o_taskAt, .int v_tasks, .int v_ties])), (o_before, .inl (cJ, 60, .inr (.inl v_before))), (o_placeOf, .inl (cI, 60, .inl v_placeOf)), (o_taskAt, .inl (cI, 60, .inl v_taskAt))] H := hP
    replace hD : va_D A [(o, .inr (2, [.ref o_weight, .ref o_after, .ref o_before, .ref o_placeOf, .ref o_taskAt, .int v_tasks, .int v_ties])), (o_before, .inl (cJ, 60, .inr (.inl v_before))), (o_placeOf, .inl (cI, 60, .inl v_placeOf)), (o_taskAt, .inl (cI, 60, .inl v_taskAt))] := hD
    exact gb_retz C () (hP.sub [0, 1, 2, 3] rfl) (hD.sub [0, 1, 2, 3] (by decide) rfl) hS h.1 h.2 dX2_leadsTo_15
/-! OrderKeeper$Net.isSpareTie(II)Z -/
theorem in_X2_isSpareTie_X2 : ∀ w ∈ wsX20, w ∈ wsX2_isSpareTie := fun _ h => List.mem_cons_of_mem _ (List.mem_append_right _ h)
theorem hdS_X2_isSpareTie : yX2_isSpareTie.cls ≠ "java/lang/invoke/MethodHandle" ∧ yX2_isSpareTie.cls ≠ "java/lang/invoke/VarHandle" ∧ (parseMethodDescriptor yX2_isSpareTie.desc).map (fun d => d.parameters.length) = some 2 := by decide +kernel
theorem hdV_X2_isSpareTie : yX2_isSpareTie.cls = RX2 ∧ yX2_isSpareTie.cls ≠ "java/lang/invoke/MethodHandle" ∧ yX2_isSpareTie.cls ≠ "java/lang/invoke/VarHandle" ∧ (parseMethodDescriptor yX2_isSpareTie.desc).map (fun d => d.parameters.length) = some 2 := ⟨rfl, hdS_X2_isSpareTie⟩
theorem cw_X2_isSpareTie_45 {R : Room} {s : State} {args : Array Value} (hts : ∀ w ∈ wsX2_isSpareTie, w.before args s = true) (hN : gb_N s) (hR : 0 + 1 ≤ R.frames ∧ 8 + (3 + 11) + 0 ≤ R.locals) : va_CN R s args RX2 45 yX7_has "OrderKeeper" cX7_has 3 (some .boolean) wsX7_has ({ frames := 0, cells := 0, slots := 0, locals := 0 }) 0 0 2 ∧ (Cond.static yX7_has).before args s = true ∧ True := ⟨va_cnB 2 hts gX2_isSpareTie_X7_has_n45 rfl rfl rfl (hN.1 (RX2, 45, yX7_has, "OrderKeeper") (List.mem_of_getElem? (i := 8) rfl)) (hts (.initialized RX7) (List.mem_of_getElem? (i := 5) rfl)) hdS_X7_has hR, (hts (.static yX7_has) (List.mem_of_getElem? (i := 14) rfl)), trivial⟩
theorem cw_X2_isSpareTie_49 {R : Room} {s : State} {args : Array Value} (hts : ∀ w ∈ wsX2_isSpareTie, w.before args s = true) (hN : gb_N s) (hR : 0 + 1 ≤ R.frames ∧ 8 + (1 + 11) + 0 ≤ R.locals) : va_CN R s args RX2 49 yX7_bit "OrderKeeper" cX7_bit 1 (some .long) wsX7_bit ({ frames := 0, cells := 0, slots := 0, locals := 0 }) 0 0 1 ∧ (Cond.static yX7_bit).before args s = true ∧ True := ⟨va_cnB 1 hts gX2_isSpareTie_X7_bit_n49 rfl rfl rfl (hN.1 (RX2, 49, yX7_bit, "OrderKeeper") (List.mem_of_getElem? (i := 9) rfl)) (hts (.initialized RX7) (List.mem_of_getElem? (i := 5) rfl)) hdS_X7_bit hR, (hts (.static yX7_bit) (List.mem_of_getElem? (i := 4) rfl)), trivial⟩
theorem cw_X2_isSpareTie_55 {R : Room} {s : State} {args : Array Value} (hts : ∀ w ∈ wsX2_isSpareTie, w.before args s = true) (hR : 1 + 1 ≤ R.frames ∧ 8 + (9 + 11) + 20 ≤ R.locals) : CallW R s args RX2 RX2 55 yX2_spread cX2_spread 9 (some .long) wsX2_spread ({ frames := 1, cells := 0, slots := 0, locals := 20 }) 0 0 3 := cwV 3 hts gX2_isSpareTie_X2_spread rfl rfl rfl hdV_X2_spread hR
def wp_X2_isSpareTie (v_after : Nat → Int64) (v_before : Nat → Int64) (v_placeOf : Nat → Int32) (v_taskAt : Nat → Int32) (a1 : Int32) (a2 : Int32) (post : Int32 → Prop) : Prop := vp_in a1 60 ∧ wp_X7_bit a2 (fun (r_2 : Int64) => ∀ x3_3 : Int64, x3_3 = (v_after a1.toNatClampNeg) &&& (r_2 ^^^ (-1)) → vp_in a1 60 ∧ vp_in a2 60 ∧ wp_X2_spread v_before v_taskAt x3_3 ((v_placeOf a1.toNatClampNeg) + 1) (v_placeOf a2.toNatClampNeg) (fun (r_6 : Int64) => wp_X7_has r_6 a2 (fun (r_7 : Int32) => (r_7 = 0 ∨ r_7 = 1) ∧ post r_7)))
set_option maxHeartbeats 4000000 in
set_option maxRecDepth 100000 in
theorem c_X2_isSpareTie (l : Launch) (D : va_G) (cI cJ cZ cO : ClassId) (o : Nat) (o_weight : Nat) (o_after : Nat) (o_before : Nat) (o_placeOf : Nat) (o_taskAt : Nat) (v_tasks : Int32) (v_ties : Int32) (v_after : Nat → Int64) (v_before : Nat → Int64) (v_placeOf : Nat → Int32) (v_taskAt : Nat → Int32) (a1 : Int32) (a2 : Int32) (post : Int32 → Prop) (hw : wp_X2_isSpareTie v_after v_before v_placeOf v_taskAt a1 a2 post) : gb_Ci D cI cJ cZ cO l yX2_isSpareTie wsX2_isSpareTie ({ frames := 2, cells := 0, slots := 0, locals := 48 }) [.ref o, .int a1, .int a2] [(o, .inr (2, [.ref o_weight, .ref o_after, .ref o_before, .ref o_placeOf, .ref o_taskAt, .int v_tasks, .int v_ties])), (o_after, .inl (cJ, 60, .inr (.inl v_after))), (o_before, .inl (cJ, 60, .inr (.inl v_before))), (o_placeOf, .inl (cI, 60, .inl v_placeOf)), (o_taskAt, .inl (cI, 60, .inl v_taskAt))] (fun (r : Int32) (_ : Unit) => post r ) (fun _ : Unit => [(o, .inr (2, [.ref o_weight, .ref o_after, .ref o_before, .ref o_placeOf, .ref o_taskAt, .int v_tasks, .int v_ties])), (o_after, .inl (cJ, 60, .inr (.inl v_after))), (o_before, .inl (cJ, 60, .inr (.inl v_before))), (o_placeOf, .inl (cI, 60, .inl v_placeOf)), (o_taskAt, .inl (cI, 60, .inl v_taskAt))]) 0 0 := by
  refine gb_mi (cc := cX2_isSpareTie) (maxL := 5) (ret := (some .boolean)) (by decide) rfl (Nat.le_of_ble_eq_true rfl) ?_
  · intro p e s m below meth c A C hP hD hS ls hl
    obtain ⟨hx, hb, hr, hml, hown, hts, hlocks, hnm, hK, hA⟩ := id C
    replace hown : s.vm.findClass RX2 = some m.cls := hown
    have h := hw
    unfold wp_X2_isSpareTie at h
    replace hl : lv_has ls 5 [(0, .ref o), (1, .int a1), (2, .int a2)] := hl
    refine lv_aload_n hx hb dX2_isSpareTie_0 rfl (lv_at hl 0 rfl) ?_
    refine va_get (D := D) (ci := 2) (v := .ref o_after) (C := RX2) (T := TX2) (N := 7) hx hb hts in_X2_isSpareTie_X2 hown hK.1 hP 0 rfl rfl 1 (by decide) (hts (.fieldLink RX2 15 "OrderKeeper$Net" "after" "[J") (List.mem_of_getElem? (i := 1) rfl)) (fun _ h9 => h9) rfl dX2_isSpareTie_1 ?_
    refine lv_iload_n hx hb dX2_isSpareTie_4 rfl (lv_at hl 1 rfl) ?_
    obtain ⟨hi1, h⟩ := h
    refine va_lald hx hb hK.1 hP 1 1 rfl rfl hi1 dX2_isSpareTie_5 ?_
    refine lv_iload_n hx hb dX2_isSpareTie_6 rfl (lv_at hl 2 rfl) ?_
    refine gb_kl (wc := []) (wr := [(o, .inr (2, [.ref o_weight, .ref o_after, .ref o_before, .ref o_placeOf, .ref o_taskAt, .int v_tasks, .int v_ties])), (o_after, .inl (cJ, 60, .inr (.inl v_after))), (o_before, .inl (cJ, 60, .inr (.inl v_before))), (o_placeOf, .inl (cI, 60, .inl v_placeOf)), (o_taskAt, .inl (cI, 60, .inl v_taskAt))]) C hP hD hS [] [0, 1, 2, 3, 4] rfl rfl (by decide) (gb_rSN (As := [.int a2]) (rest := [.long (v_after a1.toNatClampNeg)]) C ((c_X7_bit l D cI cJ cZ cO a2 _ h) _) rfl (cw_X2_isSpareTie_49 hts hK.2 ⟨Nat.le_of_ble_eq_true rfl, Nat.le_of_ble_eq_true rfl⟩) rfl hl.1 rfl (Nat.le_of_ble_eq_true rfl) dX2_isSpareTie_7 ⟨Nat.zero_le _, Nat.zero_le _⟩) ?_
    rintro r_2 _ H locs h hP hD hS
    try dsimp only at h
    replace hP : va_P D vwCl [(o, .inr (2, [.ref o_weight, .ref o_after, .ref o_before, .ref o_placeOf, .ref o_taskAt, .int v_tasks, .int v_ties])), (o_after, .inl (cJ, 60, .inr (.inl v_after))), (o_before, .inl (cJ, 60, .inr (.inl v_before))), (o_placeOf, .inl (cI, 60, .inl v_placeOf)), (o_taskAt, .inl (cI, 60, .inl v_taskAt))] H := hP
    replace hD : va_D A [(o, .inr (2, [.ref o_weight, .ref o_after, .ref o_before, .ref o_placeOf, .ref o_taskAt, .int v_tasks, .int v_ties])), (o_after, .inl (cJ, 60, .inr (.inl v_after))), (o_before, .inl (cJ, 60, .inr (.inl v_before))), (o_placeOf, .inl (cI, 60, .inl v_placeOf)), (o_taskAt, .inl (cI, 60, .inl v_taskAt))] := hD
    refine lv_ldc2 (v := (-1)) hx hb hown (hts (.constantLong RX2 53 (-1)) (List.mem_of_getElem? (i := 2) rfl)) dX2_isSpareTie_10 ?_
    refine lv_lxor hx hb dX2_isSpareTie_13 ?_
    refine lv_land hx hb dX2_isSpareTie_14 ?_
    refine lv_topl (fun x3_3 ex3_3 => ?_)
    replace h := h x3_3 ex3_3
    refine lv_lstore_n (lv' := [(3, .long x3_3), (0, .ref o), (1, .int a1), (2, .int a2)]) hx hb dX2_isSpareTie_15 rfl hl (by decide) rfl (fun ls hl => ?_)
    refine lv_aload_n hx hb dX2_isSpareTie_16 rfl (lv_at hl 1 rfl) ?_
    refine lv_lload_n hx hb dX2_isSpareTie_17 rfl (lv_at hl 0 rfl) ?_
    refine lv_aload_n hx hb dX2_isSpareTie_18 rfl (lv_at hl 1 rfl) ?_
    refine va_get (D := D) (ci := 2) (v := .ref o_placeOf) (C := RX2) (T := TX2) (N := 7) hx hb hts in_X2_isSpareTie_X2 hown hK.1 hP 0 rfl rfl 3 (by decide) (hts (.fieldLink RX2 22 "OrderKeeper$Net" "placeOf" "[I") (List.mem_of_getElem? (i := 3) rfl)) (fun _ h9 => h9) rfl dX2_isSpareTie_19 ?_
    refine lv_iload_n hx hb dX2_isSpareTie_22 rfl (lv_at hl 2 rfl) ?_
    obtain ⟨hi4, h⟩ := h
    refine va_iald hx hb hK.1 hP 3 0 rfl rfl hi4 dX2_isSpareTie_23 ?_
    refine lv_iconst (v := 1) hx hb dX2_isSpareTie_24 (by decide) ?_
    refine lv_iadd hx hb dX2_isSpareTie_25 ?_
    refine lv_aload_n hx hb dX2_isSpareTie_26 rfl (lv_at hl 1 rfl) ?_
    refine va_get (D := D) (ci := 2) (v := .ref o_placeOf) (C := RX2) (T := TX2) (N := 7) hx hb hts in_X2_isSpareTie_X2 hown hK.1 hP 0 rfl rfl 3 (by decide) (hts (.fieldLink RX2 22 "OrderKeeper$Net" "placeOf" "[I") (List.mem_of_getElem? (i := 3) rfl)) (fun _ h9 => h9) rfl dX2_isSpareTie_27 ?_
    refine lv_iload_n hx hb dX2_isSpareTie_30 rfl (lv_at hl 3 rfl) ?_
    obtain ⟨hi5, h⟩ := h
    refine va_iald hx hb hK.1 hP 3 0 rfl rfl hi5 dX2_isSpareTie_31 ?_
    refine gb_kl (wc := [(o, .inr (2, [.ref o_weight, .ref o_after, .ref o_before, .ref o_placeOf, .ref o_taskAt, .int v_tasks, .int v_ties])), (o_before, .inl (cJ, 60, .inr (.inl v_before))), (o_taskAt, .inl (cI, 60, .inl v_taskAt))]) (wr := [(o_after, .inl (cJ, 60, .inr (.inl v_after))), (o_placeOf, .inl (cI, 60, .inl v_placeOf))]) C hP hD hS [0, 2, 4] [1, 3] rfl rfl (by decide) (gb_rV (As := [.long x3_3, .int ((v_placeOf a1.toNatClampNeg) + 1), .int (v_placeOf a2.toNatClampNeg)]) (rest := []) C ((c_X2_spread l D cI cJ cZ cO o o_weight o_after o_before o_placeOf o_taskAt v_tasks v_ties v_before v_taskAt x3_3 ((v_placeOf a1.toNatClampNeg) + 1) (v_placeOf a2.toNatClampNeg) _ h) _) rfl (cw_X2_isSpareTie_55 hts ⟨Nat.le_of_ble_eq_true rfl, Nat.le_of_ble_eq_true rfl⟩) (ci := 2) (q0 := 0) rfl rfl rfl rfl hl.1 rfl (Nat.le_of_ble_eq_true rfl) dX2_isSpareTie_32 ⟨Nat.zero_le _, Nat.zero_le _⟩) ?_
    rintro r_6 _ H locs h hP hD hS
    try dsimp only at h
    replace hP : va_P D vwCl [(o_after, .inl (cJ, 60, .inr (.inl v_after))), (o_placeOf, .inl (cI, 60, .inl v_placeOf)), (o, .inr (2, [.ref o_weight, .ref o_after, .ref o_before, .ref o_placeOf, .ref o_taskAt, .int v_tasks, .int v_ties])), (o_before, .inl (cJ, 60, .inr (.inl v_before))), (o_taskAt, .inl (cI, 60, .inl v_taskAt))] H := hP
    replace hD : va_D A [(o_after, .inl (cJ, 60, .inr (.inl v_after))), (o_placeOf, .inl (cI, 60, .inl v_placeOf)), (o, .inr (2, [.ref o_weight, .ref o_after, .ref o_before, .ref o_placeOf, .ref o_taskAt, .int v_tasks, .int v_ties])), (o_before, .inl (cJ, 60, .inr (.inl v_before))), (o_taskAt, .inl (cI, 60, .inl v_taskAt))] := hD
    refine lv_iload_n hx hb dX2_isSpareTie_35 rfl (lv_at hl 3 rfl) ?_
    refine gb_ki (wc := []) (wr := [(o_after, .inl (cJ, 60, .inr (.inl v_after))), (o_placeOf, .inl (cI, 60, .inl v_placeOf)), (o, .inr (2, [.ref o_weight, .ref o_after, .ref o_before, .ref o_placeOf, .ref o_taskAt, .int v_tasks, .int v_ties])), (o_before, .inl (cJ, 60, .inr (.inl v_before))), (o_taskAt, .inl (cI, 60, .inl v_taskAt))]) C hP hD hS [] [0, 1, 2, 3, 4] rfl rfl (by decide) (gb_rSN (As := [.long r_6, .int a2]) (rest := []) C ((c_X7_has l D cI cJ cZ cO r_6 a2 _ h) _) rfl (cw_X2_isSpareTie_45 hts hK.2 ⟨Nat.le_of_ble_eq_true rfl, Nat.le_of_ble_eq_true rfl⟩) rfl hl.1 rfl (Nat.le_of_ble_eq_true rfl) dX2_isSpareTie_36 ⟨Nat.zero_le _, Nat.zero_le _⟩) ?_
    rintro r_7 _ H locs h hP hD hS
    try dsimp only at h
    replace hP : va_P D vwCl [(o_after, .inl (cJ, 60, .inr (.inl v_after))), (o_placeOf, .inl (cI, 60, .inl v_placeOf)), (o, .inr (2, [.ref o_weight, .ref o_after, .ref o_before, .ref o_placeOf, .ref o_taskAt, .int v_tasks, .int v_ties])), (o_before, .inl (cJ, 60, .inr (.inl v_before))), (o_taskAt, .inl (cI, 60, .inl v_taskAt))] H := hP
    replace hD : va_D A [(o_after, .inl (cJ, 60, .inr (.inl v_after))), (o_placeOf, .inl (cI, 60, .inl v_placeOf)), (o, .inr (2, [.ref o_weight, .ref o_after, .ref o_before, .ref o_placeOf, .ref o_taskAt, .int v_tasks, .int v_ties])), (o_before, .inl (cJ, 60, .inr (.inl v_before))), (o_taskAt, .inl (cI, 60, .inl v_taskAt))] := hD
    exact gb_retz C () (hP.sub [2, 0, 3, 1, 4] rfl) (hD.sub [2, 0, 3, 1, 4] (by decide) rfl) hS h.1 h.2 dX2_isSpareTie_39
/-! OrderKeeper$Net.countSpareTies()I -/
theorem in_X2_countSpareTies_X2 : ∀ w ∈ wsX20, w ∈ wsX2_countSpareTies := fun _ h => List.mem_cons_of_mem _ (List.mem_append_right _ h)
theorem hdS_X2_countSpareTies : yX2_countSpareTies.cls ≠ "java/lang/invoke/MethodHandle" ∧ yX2_countSpareTies.cls ≠ "java/lang/invoke/VarHandle" ∧ (parseMethodDescriptor yX2_countSpareTies.desc).map (fun d => d.parameters.length) = some 0 := by decide +kernel
theorem hdV_X2_countSpareTies : yX2_countSpareTies.cls = RX2 ∧ yX2_countSpareTies.cls ≠ "java/lang/invoke/MethodHandle" ∧ yX2_countSpareTies.cls ≠ "java/lang/invoke/VarHandle" ∧ (parseMethodDescriptor yX2_countSpareTies.desc).map (fun d => d.parameters.length) = some 0 := ⟨rfl, hdS_X2_countSpareTies⟩
theorem cw_X2_countSpareTies_63 {R : Room} {s : State} {args : Array Value} (hts : ∀ w ∈ wsX2_countSpareTies, w.before args s = true) (hR : 1 + 1 ≤ R.frames ∧ 8 + (3 + 11) + 22 ≤ R.locals) : CallW R s args RX2 RX2 63 yX2_hasTie cX2_hasTie 3 (some .boolean) wsX2_hasTie ({ frames := 1, cells := 0, slots := 0, locals := 22 }) 0 0 2 := cwV 2 hts gX2_countSpareTies_X2_hasTie rfl rfl rfl hdV_X2_hasTie hR
theorem cw_X2_countSpareTies_67 {R : Room} {s : State} {args : Array Value} (hts : ∀ w ∈ wsX2_countSpareTies, w.before args s = true) (hR : 2 + 1 ≤ R.frames ∧ 8 + (5 + 11) + 48 ≤ R.locals) : CallW R s args RX2 RX2 67 yX2_isSpareTie cX2_isSpareTie 5 (some .boolean) wsX2_isSpareTie ({ frames := 2, cells := 0, slots := 0, locals := 48 }) 0 0 2 := cwV 2 hts gX2_countSpareTies_X2_isSpareTie rfl rfl rfl hdV_X2_isSpareTie hR
def lp_X2_countSpareTies_14 (v_tasks : Int32) (v_after : Nat → Int64) (v_before : Nat → Int64) (v_placeOf : Nat → Int32) (v_taskAt : Nat → Int32) (x2 : Int32) : Nat → (Int32) → (Int32) → ((Int32) → Prop) → Prop
  | 0, _, _, _ => False
  | n14 + 1, x1, x3, kx => ((v_tasks ≤ x3 → kx x1) ∧ (¬ (v_tasks ≤ x3) → wp_X2_hasTie v_after x2 x3 (fun (r_3 : Int32) => ((r_3 = 0 → ∀ x3_5 : Int32, x3_5 = x3 + 1 → lp_X2_countSpareTies_14 v_tasks v_after v_before v_placeOf v_taskAt x2 n14 x1 x3_5 kx) ∧ (¬ (r_3 = 0) → wp_X2_isSpareTie v_after v_before v_placeOf v_taskAt x2 x3 (fun (r_6 : Int32) => ((r_6 = 0 → ∀ x3_8 : Int32, x3_8 = x3 + 1 → lp_X2_countSpareTies_14 v_tasks v_after v_before v_placeOf v_taskAt x2 n14 x1 x3_8 kx) ∧ (¬ (r_6 = 0) → ∀ x1_9 : Int32, x1_9 = x1 + 1 → ∀ x3_10 : Int32, x3_10 = x3 + 1 → lp_X2_countSpareTies_14 v_tasks v_after v_before v_placeOf v_taskAt x2 n14 x1_9 x3_10 kx))))))))
set_option maxHeartbeats 4000000 in
set_option maxRecDepth 100000 in
theorem ml_X2_countSpareTies_14 {D : va_G} {cI cJ cZ cO : ClassId} {p : Program} {l : Launch} {e : Env} {s : State} {m : MethodId} {below : List Frame} {meth : Method} {c : Code} {A : Nat → Prop} (o : Nat) (o_weight : Nat) (o_after : Nat) (o_before : Nat) (o_placeOf : Nat) (o_taskAt : Nat) (v_tasks : Int32) (v_ties : Int32) (v_after : Nat → Int64) (v_before : Nat → Int64) (v_placeOf : Nat → Int32) (v_taskAt : Nat → Int32) (x2 : Int32) (C : gb_At D cI cJ cZ cO p s m meth c ([.ref o] : List Value).toArray A yX2_countSpareTies cX2_countSpareTies (some .int) 4 wsX2_countSpareTies) (post : Int32 → Prop) (kx : ((Int32) → Prop)) (hkx : ∀ (x1 : Int32) (H : Heap) (locs : List Loc), va_P D vwCl [(o, .inr (2, [.ref o_weight, .ref o_after, .ref o_before, .ref o_placeOf, .ref o_taskAt, .int v_tasks, .int v_ties])), (o_after, .inl (cJ, 60, .inr (.inl v_after))), (o_before, .inl (cJ, 60, .inr (.inl v_before))), (o_placeOf, .inl (cI, 60, .inl v_placeOf)), (o_taskAt, .inl (cI, 60, .inl v_taskAt))] H → va_D A [(o, .inr (2, [.ref o_weight, .ref o_after, .ref o_before, .ref o_placeOf, .ref o_taskAt, .int v_tasks, .int v_ties])), (o_after, .inl (cJ, 60, .inr (.inl v_after))), (o_before, .inl (cJ, 60, .inr (.inl v_before))), (o_placeOf, .inl (cI, 60, .inl v_placeOf)), (o_taskAt, .inl (cI, 60, .inl v_taskAt))] → va_S A s.heap H locs → ∀ ls : Array Slot, lv_has ls 4 [(0, .ref o), (1, .int x1), (2, .int x2)] → kx x1 → W p l e ({ frames := 3, cells := 0, slots := 0, locals := 72 } : Room) s m ([.ref o] : List Value).toArray below meth c H locs 0 0 (MQ below (va_Qi (fun (r : Int32) (_ : Unit) => post r ) (gb_B D (fun _ : Unit => [(o, .inr (2, [.ref o_weight, .ref o_after, .ref o_before, .ref o_placeOf, .ref o_taskAt, .int v_tasks, .int v_ties])), (o_after, .inl (cJ, 60, .inr (.inl v_after))), (o_before, .inl (cJ, 60, .inr (.inl v_before))), (o_placeOf, .inl (cI, 60, .inl v_placeOf)), (o_taskAt, .inl (cI, 60, .inl v_taskAt))]) A) A) ([.ref o] : List Value).toArray s 0 0 A) (F0 m 49 ls [])) :
    ∀ (n14 : Nat) (x1 : Int32) (x3 : Int32) (H : Heap) (locs : List Loc), va_P D vwCl [(o, .inr (2, [.ref o_weight, .ref o_after, .ref o_before, .ref o_placeOf, .ref o_taskAt, .int v_tasks, .int v_ties])), (o_after, .inl (cJ, 60, .inr (.inl v_after))), (o_before, .inl (cJ, 60, .inr (.inl v_before))), (o_placeOf, .inl (cI, 60, .inl v_placeOf)), (o_taskAt, .inl (cI, 60, .inl v_taskAt))] H → va_D A [(o, .inr (2, [.ref o_weight, .ref o_after, .ref o_before, .ref o_placeOf, .ref o_taskAt, .int v_tasks, .int v_ties])), (o_after, .inl (cJ, 60, .inr (.inl v_after))), (o_before, .inl (cJ, 60, .inr (.inl v_before))), (o_placeOf, .inl (cI, 60, .inl v_placeOf)), (o_taskAt, .inl (cI, 60, .inl v_taskAt))] → va_S A s.heap H locs → ∀ ls : Array Slot, lv_has ls 4 [(0, .ref o), (1, .int x1), (2, .int x2), (3, .int x3)] → lp_X2_countSpareTies_14 v_tasks v_after v_before v_placeOf v_taskAt x2 n14 x1 x3 kx → W p l e ({ frames := 3, cells := 0, slots := 0, locals := 72 } : Room) s m ([.ref o] : List Value).toArray below meth c H locs 0 0 (MQ below (va_Qi (fun (r : Int32) (_ : Unit) => post r ) (gb_B D (fun _ : Unit => [(o, .inr (2, [.ref o_weight, .ref o_after, .ref o_before, .ref o_placeOf, .ref o_taskAt, .int v_tasks, .int v_ties])), (o_after, .inl (cJ, 60, .inr (.inl v_after))), (o_before, .inl (cJ, 60, .inr (.inl v_before))), (o_placeOf, .inl (cI, 60, .inl v_placeOf)), (o_taskAt, .inl (cI, 60, .inl v_taskAt))]) A) A) ([.ref o] : List Value).toArray s 0 0 A) (F0 m 14 ls []) := by
  obtain ⟨hx, hb, hr, hml, hown, hts, hlocks, hnm, hK, hA⟩ := id C
  replace hown : s.vm.findClass RX2 = some m.cls := hown
  intro n14
  induction n14 with
  | zero => intro x1 x3 H locs hP hD hS ls hl h; exact False.elim h
  | succ n14 ih =>
    intro x1 x3 H locs hP hD hS ls hl h
    rw [lp_X2_countSpareTies_14] at h
    refine lv_iload_n hx hb dX2_countSpareTies_14 rfl (lv_at hl 3 rfl) ?_
    refine lv_aload_n hx hb dX2_countSpareTies_15 rfl (lv_at hl 0 rfl) ?_
    refine va_get (D := D) (ci := 2) (v := .int v_tasks) (C := RX2) (T := TX2) (N := 7) hx hb hts in_X2_countSpareTies_X2 hown hK.1 hP 0 rfl rfl 5 (by decide) (hts (.fieldLink RX2 34 "OrderKeeper$Net" "tasks" "I") (List.mem_of_getElem? (i := 1) rfl)) (fun _ h9 => h9) rfl dX2_countSpareTies_16 ?_
    refine lv_icmp_ge (tgt := 49) hx hb dX2_countSpareTies_19 (by decide) (fun c2 => ?_) (fun c2 => ?_)
    · replace h := h.1 c2
      exact hkx x1 _ _ (hP.sub [0, 1, 2, 3, 4] rfl) (hD.sub [0, 1, 2, 3, 4] (by decide) rfl) hS ls (lv_sub hl [0, 1, 2] rfl) h
    · replace h := h.2 c2
      refine lv_aload_n hx hb dX2_countSpareTies_22 rfl (lv_at hl 0 rfl) ?_
      refine lv_iload_n hx hb dX2_countSpareTies_23 rfl (lv_at hl 2 rfl) ?_
      refine lv_iload_n hx hb dX2_countSpareTies_24 rfl (lv_at hl 3 rfl) ?_
      refine gb_ki (wc := [(o, .inr (2, [.ref o_weight, .ref o_after, .ref o_before, .ref o_placeOf, .ref o_taskAt, .int v_tasks, .int v_ties])), (o_after, .inl (cJ, 60, .inr (.inl v_after)))]) (wr := [(o_before, .inl (cJ, 60, .inr (.inl v_before))), (o_placeOf, .inl (cI, 60, .inl v_placeOf)), (o_taskAt, .inl (cI, 60, .inl v_taskAt))]) C hP hD hS [0, 1] [2, 3, 4] rfl rfl (by decide) (gb_rV (As := [.int x2, .int x3]) (rest := []) C ((c_X2_hasTie l D cI cJ cZ cO o o_weight o_after o_before o_placeOf o_taskAt v_tasks v_ties v_after x2 x3 _ h) _) rfl (cw_X2_countSpareTies_63 hts ⟨Nat.le_of_ble_eq_true rfl, Nat.le_of_ble_eq_true rfl⟩) (ci := 2) (q0 := 0) rfl rfl rfl rfl hl.1 rfl (Nat.le_of_ble_eq_true rfl) dX2_countSpareTies_25 ⟨Nat.zero_le _, Nat.zero_le _⟩) ?_
      rintro r_3 _ H locs h hP hD hS
      try dsimp only at h
      replace hP : va_P D vwCl [(o_before, .inl (cJ, 60, .inr (.inl v_before))), (o_placeOf, .inl (cI, 60, .inl v_placeOf)), (o_taskAt, .inl (cI, 60, .inl v_taskAt)), (o, .inr (2, [.ref o_weight, .ref o_after, .ref o_before, .ref o_placeOf, .ref o_taskAt, .int v_tasks, .int v_ties])), (o_after, .inl (cJ, 60, .inr (.inl v_after)))] H := hP
      replace hD : va_D A [(o_before, .inl (cJ, 60, .inr (.inl v_before))), (o_placeOf, .inl (cI, 60, .inl v_placeOf)), (o_taskAt, .inl (cI, 60, .inl v_taskAt)), (o, .inr (2, [.ref o_weight, .ref o_after, .ref o_before, .ref o_placeOf, .ref o_taskAt, .int v_tasks, .int v_ties])), (o_after, .inl (cJ, 60, .inr (.inl v_after)))] := hD
      refine lv_if_eq (tgt := 43) hx hb dX2_countSpareTies_28 (by decide) (fun c4 => ?_) (fun c4 => ?_)
      · replace h := h.1 c4
        obtain ⟨x3_5, ex3_5⟩ : ∃ z : Int32, z = x3 + 1 := ⟨_, rfl⟩
        refine lv_iinc (v := x3_5) (lv' := [(3, .int x3_5), (0, .ref o), (1, .int x1), (2, .int x2)]) hx hb dX2_countSpareTies_43 hl (k := 3) rfl (by rw [ex3_5]; rfl) (by decide) rfl (fun ls hl => ?_)
        replace h := h x3_5 ex3_5
        refine lv_goto (tgt := 14) hx hb dX2_countSpareTies_46 (by decide) ?_
        exact ih x1 x3_5 _ _ (hP.sub [3, 4, 0, 1, 2] rfl) (hD.sub [3, 4, 0, 1, 2] (by decide) rfl) hS ls (lv_sub hl [1, 2, 3, 0] rfl) h
      · replace h := h.2 c4
        refine lv_aload_n hx hb dX2_countSpareTies_31 rfl (lv_at hl 0 rfl) ?_
        refine lv_iload_n hx hb dX2_countSpareTies_32 rfl (lv_at hl 2 rfl) ?_
        refine lv_iload_n hx hb dX2_countSpareTies_33 rfl (lv_at hl 3 rfl) ?_
        refine gb_ki (wc := [(o, .inr (2, [.ref o_weight, .ref o_after, .ref o_before, .ref o_placeOf, .ref o_taskAt, .int v_tasks, .int v_ties])), (o_after, .inl (cJ, 60, .inr (.inl v_after))), (o_before, .inl (cJ, 60, .inr (.inl v_before))), (o_placeOf, .inl (cI, 60, .inl v_placeOf)), (o_taskAt, .inl (cI, 60, .inl v_taskAt))]) (wr := []) C hP hD hS [3, 4, 0, 1, 2] [] rfl rfl (by decide) (gb_rV (As := [.int x2, .int x3]) (rest := []) C ((c_X2_isSpareTie l D cI cJ cZ cO o o_weight o_after o_before o_placeOf o_taskAt v_tasks v_ties v_after v_before v_placeOf v_taskAt x2 x3 _ h) _) rfl (cw_X2_countSpareTies_67 hts ⟨Nat.le_of_ble_eq_true rfl, Nat.le_of_ble_eq_true rfl⟩) (ci := 2) (q0 := 0) rfl rfl rfl rfl hl.1 rfl (Nat.le_of_ble_eq_true rfl) dX2_countSpareTies_34 ⟨Nat.zero_le _, Nat.zero_le _⟩) ?_
        rintro r_6 _ H locs h hP hD hS
        try dsimp only at h
        replace hP : va_P D vwCl [(o, .inr (2, [.ref o_weight, .ref o_after, .ref o_before, .ref o_placeOf, .ref o_taskAt, .int v_tasks, .int v_ties])), (o_after, .inl (cJ, 60, .inr (.inl v_after))), (o_before, .inl (cJ, 60, .inr (.inl v_before))), (o_placeOf, .inl (cI, 60, .inl v_placeOf)), (o_taskAt, .inl (cI, 60, .inl v_taskAt))] H := hP
        replace hD : va_D A [(o, .inr (2, [.ref o_weight, .ref o_after, .ref o_before, .ref o_placeOf, .ref o_taskAt, .int v_tasks, .int v_ties])), (o_after, .inl (cJ, 60, .inr (.inl v_after))), (o_before, .inl (cJ, 60, .inr (.inl v_before))), (o_placeOf, .inl (cI, 60, .inl v_placeOf)), (o_taskAt, .inl (cI, 60, .inl v_taskAt))] := hD
        refine lv_if_eq (tgt := 43) hx hb dX2_countSpareTies_37 (by decide) (fun c7 => ?_) (fun c7 => ?_)
        · replace h := h.1 c7
          obtain ⟨x3_8, ex3_8⟩ : ∃ z : Int32, z = x3 + 1 := ⟨_, rfl⟩
          refine lv_iinc (v := x3_8) (lv' := [(3, .int x3_8), (0, .ref o), (1, .int x1), (2, .int x2)]) hx hb dX2_countSpareTies_43 hl (k := 3) rfl (by rw [ex3_8]; rfl) (by decide) rfl (fun ls hl => ?_)
          replace h := h x3_8 ex3_8
          refine lv_goto (tgt := 14) hx hb dX2_countSpareTies_46 (by decide) ?_
          exact ih x1 x3_8 _ _ (hP.sub [0, 1, 2, 3, 4] rfl) (hD.sub [0, 1, 2, 3, 4] (by decide) rfl) hS ls (lv_sub hl [1, 2, 3, 0] rfl) h
        · replace h := h.2 c7
          obtain ⟨x1_9, ex1_9⟩ : ∃ z : Int32, z = x1 + 1 := ⟨_, rfl⟩
          refine lv_iinc (v := x1_9) (lv' := [(1, .int x1_9), (0, .ref o), (2, .int x2), (3, .int x3)]) hx hb dX2_countSpareTies_40 hl (k := 1) rfl (by rw [ex1_9]; rfl) (by decide) rfl (fun ls hl => ?_)
          replace h := h x1_9 ex1_9
          obtain ⟨x3_10, ex3_10⟩ : ∃ z : Int32, z = x3 + 1 := ⟨_, rfl⟩
          refine lv_iinc (v := x3_10) (lv' := [(3, .int x3_10), (1, .int x1_9), (0, .ref o), (2, .int x2)]) hx hb dX2_countSpareTies_43 hl (k := 3) rfl (by rw [ex3_10]; rfl) (by decide) rfl (fun ls hl => ?_)
          replace h := h x3_10 ex3_10
          refine lv_goto (tgt := 14) hx hb dX2_countSpareTies_46 (by decide) ?_
          exact ih x1_9 x3_10 _ _ (hP.sub [0, 1, 2, 3, 4] rfl) (hD.sub [0, 1, 2, 3, 4] (by decide) rfl) hS ls (lv_sub hl [2, 1, 3, 0] rfl) h
def lp_X2_countSpareTies_4 (v_tasks : Int32) (v_after : Nat → Int64) (v_before : Nat → Int64) (v_placeOf : Nat → Int32) (v_taskAt : Nat → Int32) : Nat → (Int32) → (Int32) → ((Int32) → Prop) → Prop
  | 0, _, _, _ => False
  | n4 + 1, x1, x2, kx => ((v_tasks ≤ x2 → kx x1) ∧ (¬ (v_tasks ≤ x2) → (∃ n14 : Nat, lp_X2_countSpareTies_14 v_tasks v_after v_before v_placeOf v_taskAt x2 n14 x1 0 (fun (x1_11 : Int32) => ∀ x2_12 : Int32, x2_12 = x2 + 1 → lp_X2_countSpareTies_4 v_tasks v_after v_before v_placeOf v_taskAt n4 x1_11 x2_12 kx))))
set_option maxHeartbeats 4000000 in
set_option maxRecDepth 100000 in
theorem ml_X2_countSpareTies_4 {D : va_G} {cI cJ cZ cO : ClassId} {p : Program} {l : Launch} {e : Env} {s : State} {m : MethodId} {below : List Frame} {meth : Method} {c : Code} {A : Nat → Prop} (o : Nat) (o_weight : Nat) (o_after : Nat) (o_before : Nat) (o_placeOf : Nat) (o_taskAt : Nat) (v_tasks : Int32) (v_ties : Int32) (v_after : Nat → Int64) (v_before : Nat → Int64) (v_placeOf : Nat → Int32) (v_taskAt : Nat → Int32) (C : gb_At D cI cJ cZ cO p s m meth c ([.ref o] : List Value).toArray A yX2_countSpareTies cX2_countSpareTies (some .int) 4 wsX2_countSpareTies) (post : Int32 → Prop) (kx : ((Int32) → Prop)) (hkx : ∀ (x1 : Int32) (H : Heap) (locs : List Loc), va_P D vwCl [(o, .inr (2, [.ref o_weight, .ref o_after, .ref o_before, .ref o_placeOf, .ref o_taskAt, .int v_tasks, .int v_ties])), (o_after, .inl (cJ, 60, .inr (.inl v_after))), (o_before, .inl (cJ, 60, .inr (.inl v_before))), (o_placeOf, .inl (cI, 60, .inl v_placeOf)), (o_taskAt, .inl (cI, 60, .inl v_taskAt))] H → va_D A [(o, .inr (2, [.ref o_weight, .ref o_after, .ref o_before, .ref o_placeOf, .ref o_taskAt, .int v_tasks, .int v_ties])), (o_after, .inl (cJ, 60, .inr (.inl v_after))), (o_before, .inl (cJ, 60, .inr (.inl v_before))), (o_placeOf, .inl (cI, 60, .inl v_placeOf)), (o_taskAt, .inl (cI, 60, .inl v_taskAt))] → va_S A s.heap H locs → ∀ ls : Array Slot, lv_has ls 4 [(1, .int x1)] → kx x1 → W p l e ({ frames := 3, cells := 0, slots := 0, locals := 72 } : Room) s m ([.ref o] : List Value).toArray below meth c H locs 0 0 (MQ below (va_Qi (fun (r : Int32) (_ : Unit) => post r ) (gb_B D (fun _ : Unit => [(o, .inr (2, [.ref o_weight, .ref o_after, .ref o_before, .ref o_placeOf, .ref o_taskAt, .int v_tasks, .int v_ties])), (o_after, .inl (cJ, 60, .inr (.inl v_after))), (o_before, .inl (cJ, 60, .inr (.inl v_before))), (o_placeOf, .inl (cI, 60, .inl v_placeOf)), (o_taskAt, .inl (cI, 60, .inl v_taskAt))]) A) A) ([.ref o] : List Value).toArray s 0 0 A) (F0 m 55 ls [])) :
    ∀ (n4 : Nat) (x1 : Int32) (x2 : Int32) (H : Heap) (locs : List Loc), va_P D vwCl [(o, .inr (2, [.ref o_weight, .ref o_after, .ref o_before, .ref o_placeOf, .ref o_taskAt, .int v_tasks, .int v_ties])), (o_after, .inl (cJ, 60, .inr (.inl v_after))), (o_before, .inl (cJ, 60, .inr (.inl v_before))), (o_placeOf, .inl (cI, 60, .inl v_placeOf)), (o_taskAt, .inl (cI, 60, .inl v_taskAt))] H → va_D A [(o, .inr (2, [.ref o_weight, .ref o_after, .ref o_before, .ref o_placeOf, .ref o_taskAt, .int v_tasks, .int v_ties])), (o_after, .inl (cJ, 60, .inr (.inl v_after))), (o_before, .inl (cJ, 60, .inr (.inl v_before))), (o_placeOf, .inl (cI, 60, .inl v_placeOf)), (o_taskAt, .inl (cI, 60, .inl v_taskAt))] → va_S A s.heap H locs → ∀ ls : Array Slot, lv_has ls 4 [(0, .ref o), (1, .int x1), (2, .int x2)] → lp_X2_countSpareTies_4 v_tasks v_after v_before v_placeOf v_taskAt n4 x1 x2 kx → W p l e ({ frames := 3, cells := 0, slots := 0, locals := 72 } : Room) s m ([.ref o] : List Value).toArray below meth c H locs 0 0 (MQ below (va_Qi (fun (r : Int32) (_ : Unit) => post r ) (gb_B D (fun _ : Unit => [(o, .inr (2, [.ref o_weight, .ref o_after, .ref o_before, .ref o_placeOf, .ref o_taskAt, .int v_tasks, .int v_ties])), (o_after, .inl (cJ, 60, .inr (.inl v_after))), (o_before, .inl (cJ, 60, .inr (.inl v_before))), (o_placeOf, .inl (cI, 60, .inl v_placeOf)), (o_taskAt, .inl (cI, 60, .inl v_taskAt))]) A) A) ([.ref o] : List Value).toArray s 0 0 A) (F0 m 4 ls []) := by
  obtain ⟨hx, hb, hr, hml, hown, hts, hlocks, hnm, hK, hA⟩ := id C
  replace hown : s.vm.findClass RX2 = some m.cls := hown
  intro n4
  induction n4 with
  | zero => intro x1 x2 H locs hP hD hS ls hl h; exact False.elim h
  | succ n4 ih =>
    intro x1 x2 H locs hP hD hS ls hl h
    rw [lp_X2_countSpareTies_4] at h
    refine lv_iload_n hx hb dX2_countSpareTies_4 rfl (lv_at hl 2 rfl) ?_
    refine lv_aload_n hx hb dX2_countSpareTies_5 rfl (lv_at hl 0 rfl) ?_
    refine va_get (D := D) (ci := 2) (v := .int v_tasks) (C := RX2) (T := TX2) (N := 7) hx hb hts in_X2_countSpareTies_X2 hown hK.1 hP 0 rfl rfl 5 (by decide) (hts (.fieldLink RX2 34 "OrderKeeper$Net" "tasks" "I") (List.mem_of_getElem? (i := 1) rfl)) (fun _ h9 => h9) rfl dX2_countSpareTies_6 ?_
    refine lv_icmp_ge (tgt := 55) hx hb dX2_countSpareTies_9 (by decide) (fun c1 => ?_) (fun c1 => ?_)
    · replace h := h.1 c1
      exact hkx x1 _ _ (hP.sub [0, 1, 2, 3, 4] rfl) (hD.sub [0, 1, 2, 3, 4] (by decide) rfl) hS ls (lv_sub hl [1] rfl) h
    · replace h := h.2 c1
      refine lv_iconst (v := 0) hx hb dX2_countSpareTies_12 (by decide) ?_
      refine lv_istore_n (lv' := [(3, .int 0), (0, .ref o), (1, .int x1), (2, .int x2)]) hx hb dX2_countSpareTies_13 rfl hl (by decide) rfl (fun ls hl => ?_)
      obtain ⟨n14, h⟩ := h
      refine ml_X2_countSpareTies_14 o o_weight o_after o_before o_placeOf o_taskAt v_tasks v_ties v_after v_before v_placeOf v_taskAt x2 C post _ ?_ n14 x1 0 _ _ (hP.sub [0, 1, 2, 3, 4] rfl) (hD.sub [0, 1, 2, 3, 4] (by decide) rfl) hS ls (lv_sub hl [1, 2, 3, 0] rfl) h
      intro x1_11 H locs hP hD hS ls hl h
      obtain ⟨x2_12, ex2_12⟩ : ∃ z : Int32, z = x2 + 1 := ⟨_, rfl⟩
      refine lv_iinc (v := x2_12) (lv' := [(2, .int x2_12), (0, .ref o), (1, .int x1_11)]) hx hb dX2_countSpareTies_49 hl (k := 2) rfl (by rw [ex2_12]; rfl) (by decide) rfl (fun ls hl => ?_)
      replace h := h x2_12 ex2_12
      refine lv_goto (tgt := 4) hx hb dX2_countSpareTies_52 (by decide) ?_
      exact ih x1_11 x2_12 _ _ (hP.sub [0, 1, 2, 3, 4] rfl) (hD.sub [0, 1, 2, 3, 4] (by decide) rfl) hS ls (lv_sub hl [1, 2, 0] rfl) h
def wp_X2_countSpareTies (v_tasks : Int32) (v_after : Nat → Int64) (v_before : Nat → Int64) (v_placeOf : Nat → Int32) (v_taskAt : Nat → Int32) (post : Int32 → Prop) : Prop := (∃ n4 : Nat, lp_X2_countSpareTies_4 v_tasks v_after v_before v_placeOf v_taskAt n4 0 0 (fun (x1_13 : Int32) => post x1_13))
set_option maxHeartbeats 4000000 in
set_option maxRecDepth 100000 in
theorem c_X2_countSpareTies (l : Launch) (D : va_G) (cI cJ cZ cO : ClassId) (o : Nat) (o_weight : Nat) (o_after : Nat) (o_before : Nat) (o_placeOf : Nat) (o_taskAt : Nat) (v_tasks : Int32) (v_ties : Int32) (v_after : Nat → Int64) (v_before : Nat → Int64) (v_placeOf : Nat → Int32) (v_taskAt : Nat → Int32) (post : Int32 → Prop) (hw : wp_X2_countSpareTies v_tasks v_after v_before v_placeOf v_taskAt post) : gb_Ci D cI cJ cZ cO l yX2_countSpareTies wsX2_countSpareTies ({ frames := 3, cells := 0, slots := 0, locals := 72 }) [.ref o] [(o, .inr (2, [.ref o_weight, .ref o_after, .ref o_before, .ref o_placeOf, .ref o_taskAt, .int v_tasks, .int v_ties])), (o_after, .inl (cJ, 60, .inr (.inl v_after))), (o_before, .inl (cJ, 60, .inr (.inl v_before))), (o_placeOf, .inl (cI, 60, .inl v_placeOf)), (o_taskAt, .inl (cI, 60, .inl v_taskAt))] (fun (r : Int32) (_ : Unit) => post r ) (fun _ : Unit => [(o, .inr (2, [.ref o_weight, .ref o_after, .ref o_before, .ref o_placeOf, .ref o_taskAt, .int v_tasks, .int v_ties])), (o_after, .inl (cJ, 60, .inr (.inl v_after))), (o_before, .inl (cJ, 60, .inr (.inl v_before))), (o_placeOf, .inl (cI, 60, .inl v_placeOf)), (o_taskAt, .inl (cI, 60, .inl v_taskAt))]) 0 0 := by
  refine gb_mi (cc := cX2_countSpareTies) (maxL := 4) (ret := (some .int)) (by decide) rfl (Nat.le_of_ble_eq_true rfl) ?_
  · intro p e s m below meth c A C hP hD hS ls hl
    obtain ⟨hx, hb, hr, hml, hown, hts, hlocks, hnm, hK, hA⟩ := id C
    replace hown : s.vm.findClass RX2 = some m.cls := hown
    have h := hw
    unfold wp_X2_countSpareTies at h
    replace hl : lv_has ls 4 [(0, .ref o)] := hl
    refine lv_iconst (v := 0) hx hb dX2_countSpareTies_0 (by decide) ?_
    refine lv_istore_n (lv' := [(1, .int 0), (0, .ref o)]) hx hb dX2_countSpareTies_1 rfl hl (by decide) rfl (fun ls hl => ?_)
    refine lv_iconst (v := 0) hx hb dX2_countSpareTies_2 (by decide) ?_
    refine lv_istore_n (lv' := [(2, .int 0), (1, .int 0), (0, .ref o)]) hx hb dX2_countSpareTies_3 rfl hl (by decide) rfl (fun ls hl => ?_)
    obtain ⟨n4, h⟩ := h
    refine ml_X2_countSpareTies_4 o o_weight o_after o_before o_placeOf o_taskAt v_tasks v_ties v_after v_before v_placeOf v_taskAt C post _ ?_ n4 0 0 _ _ (hP.sub [0, 1, 2, 3, 4] rfl) (hD.sub [0, 1, 2, 3, 4] (by decide) rfl) hS ls (lv_sub hl [2, 1, 0] rfl) h
    intro x1_13 H locs hP hD hS ls hl h
    refine lv_iload_n hx hb dX2_countSpareTies_55 rfl (lv_at hl 0 rfl) ?_
    exact gb_reti C () (hP.sub [0, 1, 2, 3, 4] rfl) (hD.sub [0, 1, 2, 3, 4] (by decide) rfl) hS h dX2_countSpareTies_56
/-! OrderKeeper$Net.countMovedSince(LOrderKeeper$Net;)I -/
theorem in_X2_countMovedSince_X2 : ∀ w ∈ wsX20, w ∈ wsX2_countMovedSince := fun _ h => List.mem_cons_of_mem _ (List.mem_append_right _ h)
theorem hdS_X2_countMovedSince : yX2_countMovedSince.cls ≠ "java/lang/invoke/MethodHandle" ∧ yX2_countMovedSince.cls ≠ "java/lang/invoke/VarHandle" ∧ (parseMethodDescriptor yX2_countMovedSince.desc).map (fun d => d.parameters.length) = some 1 := by decide +kernel
theorem hdV_X2_countMovedSince : yX2_countMovedSince.cls = RX2 ∧ yX2_countMovedSince.cls ≠ "java/lang/invoke/MethodHandle" ∧ yX2_countMovedSince.cls ≠ "java/lang/invoke/VarHandle" ∧ (parseMethodDescriptor yX2_countMovedSince.desc).map (fun d => d.parameters.length) = some 1 := ⟨rfl, hdS_X2_countMovedSince⟩
def lp_X2_countMovedSince_4 (v_tasks : Int32) (v_placeOf : Nat → Int32) (w1_placeOf : Nat → Int32) : Nat → (Int32) → (Int32) → ((Int32) → Prop) → Prop
  | 0, _, _, _ => False
  | n4 + 1, x2, x3, kx => ((v_tasks ≤ x3 → kx x2) ∧ (¬ (v_tasks ≤ x3) → vp_in x3 60 ∧ vp_in x3 60 ∧ (((v_placeOf x3.toNatClampNeg) = (w1_placeOf x3.toNatClampNeg) → ∀ x3_5 : Int32, x3_5 = x3 + 1 → lp_X2_countMovedSince_4 v_tasks v_placeOf w1_placeOf n4 x2 x3_5 kx) ∧ (¬ ((v_placeOf x3.toNatClampNeg) = (w1_placeOf x3.toNatClampNeg)) → ∀ x2_6 : Int32, x2_6 = x2 + 1 → ∀ x3_7 : Int32, x3_7 = x3 + 1 → lp_X2_countMovedSince_4 v_tasks v_placeOf w1_placeOf n4 x2_6 x3_7 kx))))
set_option maxHeartbeats 4000000 in
set_option maxRecDepth 100000 in
theorem ml_X2_countMovedSince_4 {D : va_G} {cI cJ cZ cO : ClassId} {p : Program} {l : Launch} {e : Env} {s : State} {m : MethodId} {below : List Frame} {meth : Method} {c : Code} {A : Nat → Prop} (o : Nat) (o_weight : Nat) (o_after : Nat) (o_before : Nat) (o_placeOf : Nat) (o_taskAt : Nat) (q1 : Nat) (q1_weight : Nat) (q1_after : Nat) (q1_before : Nat) (q1_placeOf : Nat) (q1_taskAt : Nat) (v_tasks : Int32) (v_ties : Int32) (v_placeOf : Nat → Int32) (w1_tasks : Int32) (w1_ties : Int32) (w1_placeOf : Nat → Int32) (C : gb_At D cI cJ cZ cO p s m meth c ([.ref o, .ref q1] : List Value).toArray A yX2_countMovedSince cX2_countMovedSince (some .int) 4 wsX2_countMovedSince) (post : Int32 → Prop) (kx : ((Int32) → Prop)) (hkx : ∀ (x2 : Int32) (H : Heap) (locs : List Loc), va_P D vwCl [(o, .inr (2, [.ref o_weight, .ref o_after, .ref o_before, .ref o_placeOf, .ref o_taskAt, .int v_tasks, .int v_ties])), (o_placeOf, .inl (cI, 60, .inl v_placeOf)), (q1, .inr (2, [.ref q1_weight, .ref q1_after, .ref q1_before, .ref q1_placeOf, .ref q1_taskAt, .int w1_tasks, .int w1_ties])), (q1_placeOf, .inl (cI, 60, .inl w1_placeOf))] H → va_D A [(o, .inr (2, [.ref o_weight, .ref o_after, .ref o_before, .ref o_placeOf, .ref o_taskAt, .int v_tasks, .int v_ties])), (o_placeOf, .inl (cI, 60, .inl v_placeOf)), (q1, .inr (2, [.ref q1_weight, .ref q1_after, .ref q1_before, .ref q1_placeOf, .ref q1_taskAt, .int w1_tasks, .int w1_ties])), (q1_placeOf, .inl (cI, 60, .inl w1_placeOf))] → va_S A s.heap H locs → ∀ ls : Array Slot, lv_has ls 4 [(2, .int x2)] → kx x2 → W p l e ({ frames := 0, cells := 0, slots := 0, locals := 0 } : Room) s m ([.ref o, .ref q1] : List Value).toArray below meth c H locs 0 0 (MQ below (va_Qi (fun (r : Int32) (_ : Unit) => post r ) (gb_B D (fun _ : Unit => [(o, .inr (2, [.ref o_weight, .ref o_after, .ref o_before, .ref o_placeOf, .ref o_taskAt, .int v_tasks, .int v_ties])), (o_placeOf, .inl (cI, 60, .inl v_placeOf)), (q1, .inr (2, [.ref q1_weight, .ref q1_after, .ref q1_before, .ref q1_placeOf, .ref q1_taskAt, .int w1_tasks, .int w1_ties])), (q1_placeOf, .inl (cI, 60, .inl w1_placeOf))]) A) A) ([.ref o, .ref q1] : List Value).toArray s 0 0 A) (F0 m 36 ls [])) :
    ∀ (n4 : Nat) (x2 : Int32) (x3 : Int32) (H : Heap) (locs : List Loc), va_P D vwCl [(o, .inr (2, [.ref o_weight, .ref o_after, .ref o_before, .ref o_placeOf, .ref o_taskAt, .int v_tasks, .int v_ties])), (o_placeOf, .inl (cI, 60, .inl v_placeOf)), (q1, .inr (2, [.ref q1_weight, .ref q1_after, .ref q1_before, .ref q1_placeOf, .ref q1_taskAt, .int w1_tasks, .int w1_ties])), (q1_placeOf, .inl (cI, 60, .inl w1_placeOf))] H → va_D A [(o, .inr (2, [.ref o_weight, .ref o_after, .ref o_before, .ref o_placeOf, .ref o_taskAt, .int v_tasks, .int v_ties])), (o_placeOf, .inl (cI, 60, .inl v_placeOf)), (q1, .inr (2, [.ref q1_weight, .ref q1_after, .ref q1_before, .ref q1_placeOf, .ref q1_taskAt, .int w1_tasks, .int w1_ties])), (q1_placeOf, .inl (cI, 60, .inl w1_placeOf))] → va_S A s.heap H locs → ∀ ls : Array Slot, lv_has ls 4 [(0, .ref o), (1, .ref q1), (2, .int x2), (3, .int x3)] → lp_X2_countMovedSince_4 v_tasks v_placeOf w1_placeOf n4 x2 x3 kx → W p l e ({ frames := 0, cells := 0, slots := 0, locals := 0 } : Room) s m ([.ref o, .ref q1] : List Value).toArray below meth c H locs 0 0 (MQ below (va_Qi (fun (r : Int32) (_ : Unit) => post r ) (gb_B D (fun _ : Unit => [(o, .inr (2, [.ref o_weight, .ref o_after, .ref o_before, .ref o_placeOf, .ref o_taskAt, .int v_tasks, .int v_ties])), (o_placeOf, .inl (cI, 60, .inl v_placeOf)), (q1, .inr (2, [.ref q1_weight, .ref q1_after, .ref q1_before, .ref q1_placeOf, .ref q1_taskAt, .int w1_tasks, .int w1_ties])), (q1_placeOf, .inl (cI, 60, .inl w1_placeOf))]) A) A) ([.ref o, .ref q1] : List Value).toArray s 0 0 A) (F0 m 4 ls []) := by
  obtain ⟨hx, hb, hr, hml, hown, hts, hlocks, hnm, hK, hA⟩ := id C
  replace hown : s.vm.findClass RX2 = some m.cls := hown
  intro n4
  induction n4 with
  | zero => intro x2 x3 H locs hP hD hS ls hl h; exact False.elim h
  | succ n4 ih =>
    intro x2 x3 H locs hP hD hS ls hl h
    rw [lp_X2_countMovedSince_4] at h
    refine lv_iload_n hx hb dX2_countMovedSince_4 rfl (lv_at hl 3 rfl) ?_
    refine lv_aload_n hx hb dX2_countMovedSince_5 rfl (lv_at hl 0 rfl) ?_
    refine va_get (D := D) (ci := 2) (v := .int v_tasks) (C := RX2) (T := TX2) (N := 7) hx hb hts in_X2_countMovedSince_X2 hown hK.1 hP 0 rfl rfl 5 (by decide) (hts (.fieldLink RX2 34 "OrderKeeper$Net" "tasks" "I") (List.mem_of_getElem? (i := 1) rfl)) (fun _ h9 => h9) rfl dX2_countMovedSince_6 ?_
    refine lv_icmp_ge (tgt := 36) hx hb dX2_countMovedSince_9 (by decide) (fun c1 => ?_) (fun c1 => ?_)
    · replace h := h.1 c1
      exact hkx x2 _ _ (hP.sub [0, 1, 2, 3] rfl) (hD.sub [0, 1, 2, 3] (by decide) rfl) hS ls (lv_sub hl [2] rfl) h
    · replace h := h.2 c1
      refine lv_aload_n hx hb dX2_countMovedSince_12 rfl (lv_at hl 0 rfl) ?_
      refine va_get (D := D) (ci := 2) (v := .ref o_placeOf) (C := RX2) (T := TX2) (N := 7) hx hb hts in_X2_countMovedSince_X2 hown hK.1 hP 0 rfl rfl 3 (by decide) (hts (.fieldLink RX2 22 "OrderKeeper$Net" "placeOf" "[I") (List.mem_of_getElem? (i := 2) rfl)) (fun _ h9 => h9) rfl dX2_countMovedSince_13 ?_
      refine lv_iload_n hx hb dX2_countMovedSince_16 rfl (lv_at hl 3 rfl) ?_
      obtain ⟨hi2, h⟩ := h
      refine va_iald hx hb hK.1 hP 1 0 rfl rfl hi2 dX2_countMovedSince_17 ?_
      refine lv_aload_n hx hb dX2_countMovedSince_18 rfl (lv_at hl 1 rfl) ?_
      refine va_get (D := D) (ci := 2) (v := .ref q1_placeOf) (C := RX2) (T := TX2) (N := 7) hx hb hts in_X2_countMovedSince_X2 hown hK.1 hP 2 rfl rfl 3 (by decide) (hts (.fieldLink RX2 22 "OrderKeeper$Net" "placeOf" "[I") (List.mem_of_getElem? (i := 2) rfl)) (fun _ h9 => h9) rfl dX2_countMovedSince_19 ?_
      refine lv_iload_n hx hb dX2_countMovedSince_22 rfl (lv_at hl 3 rfl) ?_
      obtain ⟨hi3, h⟩ := h
      refine va_iald hx hb hK.1 hP 3 0 rfl rfl hi3 dX2_countMovedSince_23 ?_
      refine lv_icmp_eq (tgt := 30) hx hb dX2_countMovedSince_24 (by decide) (fun c4 => ?_) (fun c4 => ?_)
      · replace h := h.1 c4
        obtain ⟨x3_5, ex3_5⟩ : ∃ z : Int32, z = x3 + 1 := ⟨_, rfl⟩
        refine lv_iinc (v := x3_5) (lv' := [(3, .int x3_5), (0, .ref o), (1, .ref q1), (2, .int x2)]) hx hb dX2_countMovedSince_30 hl (k := 3) rfl (by rw [ex3_5]; rfl) (by decide) rfl (fun ls hl => ?_)
        replace h := h x3_5 ex3_5
        refine lv_goto (tgt := 4) hx hb dX2_countMovedSince_33 (by decide) ?_
        exact ih x2 x3_5 _ _ (hP.sub [0, 1, 2, 3] rfl) (hD.sub [0, 1, 2, 3] (by decide) rfl) hS ls (lv_sub hl [1, 2, 3, 0] rfl) h
      · replace h := h.2 c4
        obtain ⟨x2_6, ex2_6⟩ : ∃ z : Int32, z = x2 + 1 := ⟨_, rfl⟩
        refine lv_iinc (v := x2_6) (lv' := [(2, .int x2_6), (0, .ref o), (1, .ref q1), (3, .int x3)]) hx hb dX2_countMovedSince_27 hl (k := 2) rfl (by rw [ex2_6]; rfl) (by decide) rfl (fun ls hl => ?_)
        replace h := h x2_6 ex2_6
        obtain ⟨x3_7, ex3_7⟩ : ∃ z : Int32, z = x3 + 1 := ⟨_, rfl⟩
        refine lv_iinc (v := x3_7) (lv' := [(3, .int x3_7), (2, .int x2_6), (0, .ref o), (1, .ref q1)]) hx hb dX2_countMovedSince_30 hl (k := 3) rfl (by rw [ex3_7]; rfl) (by decide) rfl (fun ls hl => ?_)
        replace h := h x3_7 ex3_7
        refine lv_goto (tgt := 4) hx hb dX2_countMovedSince_33 (by decide) ?_
        exact ih x2_6 x3_7 _ _ (hP.sub [0, 1, 2, 3] rfl) (hD.sub [0, 1, 2, 3] (by decide) rfl) hS ls (lv_sub hl [2, 3, 1, 0] rfl) h
def wp_X2_countMovedSince (v_tasks : Int32) (v_placeOf : Nat → Int32) (w1_placeOf : Nat → Int32) (post : Int32 → Prop) : Prop := (∃ n4 : Nat, lp_X2_countMovedSince_4 v_tasks v_placeOf w1_placeOf n4 0 0 (fun (x2_8 : Int32) => post x2_8))
set_option maxHeartbeats 4000000 in
set_option maxRecDepth 100000 in
theorem c_X2_countMovedSince (l : Launch) (D : va_G) (cI cJ cZ cO : ClassId) (o : Nat) (o_weight : Nat) (o_after : Nat) (o_before : Nat) (o_placeOf : Nat) (o_taskAt : Nat) (q1 : Nat) (q1_weight : Nat) (q1_after : Nat) (q1_before : Nat) (q1_placeOf : Nat) (q1_taskAt : Nat) (v_tasks : Int32) (v_ties : Int32) (v_placeOf : Nat → Int32) (w1_tasks : Int32) (w1_ties : Int32) (w1_placeOf : Nat → Int32) (post : Int32 → Prop) (hw : wp_X2_countMovedSince v_tasks v_placeOf w1_placeOf post) : gb_Ci D cI cJ cZ cO l yX2_countMovedSince wsX2_countMovedSince ({ frames := 0, cells := 0, slots := 0, locals := 0 }) [.ref o, .ref q1] [(o, .inr (2, [.ref o_weight, .ref o_after, .ref o_before, .ref o_placeOf, .ref o_taskAt, .int v_tasks, .int v_ties])), (o_placeOf, .inl (cI, 60, .inl v_placeOf)), (q1, .inr (2, [.ref q1_weight, .ref q1_after, .ref q1_before, .ref q1_placeOf, .ref q1_taskAt, .int w1_tasks, .int w1_ties])), (q1_placeOf, .inl (cI, 60, .inl w1_placeOf))] (fun (r : Int32) (_ : Unit) => post r ) (fun _ : Unit => [(o, .inr (2, [.ref o_weight, .ref o_after, .ref o_before, .ref o_placeOf, .ref o_taskAt, .int v_tasks, .int v_ties])), (o_placeOf, .inl (cI, 60, .inl v_placeOf)), (q1, .inr (2, [.ref q1_weight, .ref q1_after, .ref q1_before, .ref q1_placeOf, .ref q1_taskAt, .int w1_tasks, .int w1_ties])), (q1_placeOf, .inl (cI, 60, .inl w1_placeOf))]) 0 0 := by
  refine gb_mi (cc := cX2_countMovedSince) (maxL := 4) (ret := (some .int)) (by decide) rfl (Nat.le_of_ble_eq_true rfl) ?_
  · intro p e s m below meth c A C hP hD hS ls hl
    obtain ⟨hx, hb, hr, hml, hown, hts, hlocks, hnm, hK, hA⟩ := id C
    replace hown : s.vm.findClass RX2 = some m.cls := hown
    have h := hw
    unfold wp_X2_countMovedSince at h
    replace hl : lv_has ls 4 [(0, .ref o), (1, .ref q1)] := hl
    refine lv_iconst (v := 0) hx hb dX2_countMovedSince_0 (by decide) ?_
    refine lv_istore_n (lv' := [(2, .int 0), (0, .ref o), (1, .ref q1)]) hx hb dX2_countMovedSince_1 rfl hl (by decide) rfl (fun ls hl => ?_)
    refine lv_iconst (v := 0) hx hb dX2_countMovedSince_2 (by decide) ?_
    refine lv_istore_n (lv' := [(3, .int 0), (2, .int 0), (0, .ref o), (1, .ref q1)]) hx hb dX2_countMovedSince_3 rfl hl (by decide) rfl (fun ls hl => ?_)
    obtain ⟨n4, h⟩ := h
    refine ml_X2_countMovedSince_4 o o_weight o_after o_before o_placeOf o_taskAt q1 q1_weight q1_after q1_before q1_placeOf q1_taskAt v_tasks v_ties v_placeOf w1_tasks w1_ties w1_placeOf C post _ ?_ n4 0 0 _ _ (hP.sub [0, 1, 2, 3] rfl) (hD.sub [0, 1, 2, 3] (by decide) rfl) hS ls (lv_sub hl [2, 3, 1, 0] rfl) h
    intro x2_8 H locs hP hD hS ls hl h
    refine lv_iload_n hx hb dX2_countMovedSince_36 rfl (lv_at hl 0 rfl) ?_
    exact gb_reti C () (hP.sub [0, 1, 2, 3] rfl) (hD.sub [0, 1, 2, 3] (by decide) rfl) hS h dX2_countMovedSince_37
/-! OrderKeeper$Net.placesAreSound()Z -/
theorem in_X2_placesAreSound_X2 : ∀ w ∈ wsX20, w ∈ wsX2_placesAreSound := fun _ h => List.mem_cons_of_mem _ (List.mem_append_right _ h)
theorem hdS_X2_placesAreSound : yX2_placesAreSound.cls ≠ "java/lang/invoke/MethodHandle" ∧ yX2_placesAreSound.cls ≠ "java/lang/invoke/VarHandle" ∧ (parseMethodDescriptor yX2_placesAreSound.desc).map (fun d => d.parameters.length) = some 0 := by decide +kernel
theorem hdV_X2_placesAreSound : yX2_placesAreSound.cls = RX2 ∧ yX2_placesAreSound.cls ≠ "java/lang/invoke/MethodHandle" ∧ yX2_placesAreSound.cls ≠ "java/lang/invoke/VarHandle" ∧ (parseMethodDescriptor yX2_placesAreSound.desc).map (fun d => d.parameters.length) = some 0 := ⟨rfl, hdS_X2_placesAreSound⟩
theorem cw_X2_placesAreSound_41 {R : Room} {s : State} {args : Array Value} (hts : ∀ w ∈ wsX2_placesAreSound, w.before args s = true) (hR : 0 + 1 ≤ R.frames ∧ 8 + (2 + 11) + 0 ≤ R.locals) : CallW R s args RX2 RX2 41 yX2_isTask cX2_isTask 2 (some .boolean) wsX2_isTask ({ frames := 0, cells := 0, slots := 0, locals := 0 }) 0 0 1 := cwV 1 hts gX2_placesAreSound_X2_isTask rfl rfl rfl hdV_X2_isTask hR
def lp_X2_placesAreSound_2 (v_tasks : Int32) (v_placeOf : Nat → Int32) (v_taskAt : Nat → Int32) (post : Int32 → Prop) : Nat → (Int32) → (Prop) → Prop
  | 0, _, _ => False
  | n2 + 1, x1, kx => ((v_tasks ≤ x1 → kx) ∧ (¬ (v_tasks ≤ x1) → vp_in x1 60 ∧ wp_X2_isTask v_tasks (v_placeOf x1.toNatClampNeg) (fun (r_3 : Int32) => ((r_3 = 0 → post 0) ∧ (¬ (r_3 = 0) → vp_in x1 60 ∧ vp_in (v_placeOf x1.toNatClampNeg) 60 ∧ (((v_taskAt (v_placeOf x1.toNatClampNeg).toNatClampNeg) = x1 → ∀ x1_8 : Int32, x1_8 = x1 + 1 → lp_X2_placesAreSound_2 v_tasks v_placeOf v_taskAt post n2 x1_8 kx) ∧ (¬ ((v_taskAt (v_placeOf x1.toNatClampNeg).toNatClampNeg) = x1) → post 0)))))))
set_option maxHeartbeats 4000000 in
set_option maxRecDepth 100000 in
theorem ml_X2_placesAreSound_2 {D : va_G} {cI cJ cZ cO : ClassId} {p : Program} {l : Launch} {e : Env} {s : State} {m : MethodId} {below : List Frame} {meth : Method} {c : Code} {A : Nat → Prop} (o : Nat) (o_weight : Nat) (o_after : Nat) (o_before : Nat) (o_placeOf : Nat) (o_taskAt : Nat) (v_tasks : Int32) (v_ties : Int32) (v_placeOf : Nat → Int32) (v_taskAt : Nat → Int32) (C : gb_At D cI cJ cZ cO p s m meth c ([.ref o] : List Value).toArray A yX2_placesAreSound cX2_placesAreSound (some .boolean) 2 wsX2_placesAreSound) (post : Int32 → Prop) (kx : (Prop)) (hkx : ∀  (H : Heap) (locs : List Loc), va_P D vwCl [(o, .inr (2, [.ref o_weight, .ref o_after, .ref o_before, .ref o_placeOf, .ref o_taskAt, .int v_tasks, .int v_ties])), (o_placeOf, .inl (cI, 60, .inl v_placeOf)), (o_taskAt, .inl (cI, 60, .inl v_taskAt))] H → va_D A [(o, .inr (2, [.ref o_weight, .ref o_after, .ref o_before, .ref o_placeOf, .ref o_taskAt, .int v_tasks, .int v_ties])), (o_placeOf, .inl (cI, 60, .inl v_placeOf)), (o_taskAt, .inl (cI, 60, .inl v_taskAt))] → va_S A s.heap H locs → ∀ ls : Array Slot, lv_has ls 2 [] → kx  → W p l e ({ frames := 1, cells := 0, slots := 0, locals := 21 } : Room) s m ([.ref o] : List Value).toArray below meth c H locs 0 0 (MQ below (va_Qi (fun (r : Int32) (_ : Unit) => post r ) (gb_B D (fun _ : Unit => [(o, .inr (2, [.ref o_weight, .ref o_after, .ref o_before, .ref o_placeOf, .ref o_taskAt, .int v_tasks, .int v_ties])), (o_placeOf, .inl (cI, 60, .inl v_placeOf)), (o_taskAt, .inl (cI, 60, .inl v_taskAt))]) A) A) ([.ref o] : List Value).toArray s 0 0 A) (F0 m 46 ls [])) :
    ∀ (n2 : Nat) (x1 : Int32) (H : Heap) (locs : List Loc), va_P D vwCl [(o, .inr (2, [.ref o_weight, .ref o_after, .ref o_before, .ref o_placeOf, .ref o_taskAt, .int v_tasks, .int v_ties])), (o_placeOf, .inl (cI, 60, .inl v_placeOf)), (o_taskAt, .inl (cI, 60, .inl v_taskAt))] H → va_D A [(o, .inr (2, [.ref o_weight, .ref o_after, .ref o_before, .ref o_placeOf, .ref o_taskAt, .int v_tasks, .int v_ties])), (o_placeOf, .inl (cI, 60, .inl v_placeOf)), (o_taskAt, .inl (cI, 60, .inl v_taskAt))] → va_S A s.heap H locs → ∀ ls : Array Slot, lv_has ls 2 [(0, .ref o), (1, .int x1)] → lp_X2_placesAreSound_2 v_tasks v_placeOf v_taskAt post n2 x1 kx → W p l e ({ frames := 1, cells := 0, slots := 0, locals := 21 } : Room) s m ([.ref o] : List Value).toArray below meth c H locs 0 0 (MQ below (va_Qi (fun (r : Int32) (_ : Unit) => post r ) (gb_B D (fun _ : Unit => [(o, .inr (2, [.ref o_weight, .ref o_after, .ref o_before, .ref o_placeOf, .ref o_taskAt, .int v_tasks, .int v_ties])), (o_placeOf, .inl (cI, 60, .inl v_placeOf)), (o_taskAt, .inl (cI, 60, .inl v_taskAt))]) A) A) ([.ref o] : List Value).toArray s 0 0 A) (F0 m 2 ls []) := by
  obtain ⟨hx, hb, hr, hml, hown, hts, hlocks, hnm, hK, hA⟩ := id C
  replace hown : s.vm.findClass RX2 = some m.cls := hown
  intro n2
  induction n2 with
  | zero => intro x1 H locs hP hD hS ls hl h; exact False.elim h
  | succ n2 ih =>
    intro x1 H locs hP hD hS ls hl h
    rw [lp_X2_placesAreSound_2] at h
    refine lv_iload_n hx hb dX2_placesAreSound_2 rfl (lv_at hl 1 rfl) ?_
    refine lv_aload_n hx hb dX2_placesAreSound_3 rfl (lv_at hl 0 rfl) ?_
    refine va_get (D := D) (ci := 2) (v := .int v_tasks) (C := RX2) (T := TX2) (N := 7) hx hb hts in_X2_placesAreSound_X2 hown hK.1 hP 0 rfl rfl 5 (by decide) (hts (.fieldLink RX2 34 "OrderKeeper$Net" "tasks" "I") (List.mem_of_getElem? (i := 1) rfl)) (fun _ h9 => h9) rfl dX2_placesAreSound_4 ?_
    refine lv_icmp_ge (tgt := 46) hx hb dX2_placesAreSound_7 (by decide) (fun c1 => ?_) (fun c1 => ?_)
    · replace h := h.1 c1
      exact hkx _ _ (hP.sub [0, 1, 2] rfl) (hD.sub [0, 1, 2] (by decide) rfl) hS ls (lv_sub hl [] rfl) h
    · replace h := h.2 c1
      refine lv_aload_n hx hb dX2_placesAreSound_10 rfl (lv_at hl 0 rfl) ?_
      refine lv_aload_n hx hb dX2_placesAreSound_11 rfl (lv_at hl 0 rfl) ?_
      refine va_get (D := D) (ci := 2) (v := .ref o_placeOf) (C := RX2) (T := TX2) (N := 7) hx hb hts in_X2_placesAreSound_X2 hown hK.1 hP 0 rfl rfl 3 (by decide) (hts (.fieldLink RX2 22 "OrderKeeper$Net" "placeOf" "[I") (List.mem_of_getElem? (i := 2) rfl)) (fun _ h9 => h9) rfl dX2_placesAreSound_12 ?_
      refine lv_iload_n hx hb dX2_placesAreSound_15 rfl (lv_at hl 1 rfl) ?_
      obtain ⟨hi2, h⟩ := h
      refine va_iald hx hb hK.1 hP 1 0 rfl rfl hi2 dX2_placesAreSound_16 ?_
      refine gb_ki (wc := [(o, .inr (2, [.ref o_weight, .ref o_after, .ref o_before, .ref o_placeOf, .ref o_taskAt, .int v_tasks, .int v_ties]))]) (wr := [(o_placeOf, .inl (cI, 60, .inl v_placeOf)), (o_taskAt, .inl (cI, 60, .inl v_taskAt))]) C hP hD hS [0] [1, 2] rfl rfl (by decide) (gb_rV (As := [.int (v_placeOf x1.toNatClampNeg)]) (rest := []) C ((c_X2_isTask l D cI cJ cZ cO o o_weight o_after o_before o_placeOf o_taskAt v_tasks v_ties (v_placeOf x1.toNatClampNeg) _ h) _) rfl (cw_X2_placesAreSound_41 hts ⟨Nat.le_of_ble_eq_true rfl, Nat.le_of_ble_eq_true rfl⟩) (ci := 2) (q0 := 0) rfl rfl rfl rfl hl.1 rfl (Nat.le_of_ble_eq_true rfl) dX2_placesAreSound_17 ⟨Nat.zero_le _, Nat.zero_le _⟩) ?_
      rintro r_3 _ H locs h hP hD hS
      try dsimp only at h
      replace hP : va_P D vwCl [(o_placeOf, .inl (cI, 60, .inl v_placeOf)), (o_taskAt, .inl (cI, 60, .inl v_taskAt)), (o, .inr (2, [.ref o_weight, .ref o_after, .ref o_before, .ref o_placeOf, .ref o_taskAt, .int v_tasks, .int v_ties]))] H := hP
      replace hD : va_D A [(o_placeOf, .inl (cI, 60, .inl v_placeOf)), (o_taskAt, .inl (cI, 60, .inl v_taskAt)), (o, .inr (2, [.ref o_weight, .ref o_after, .ref o_before, .ref o_placeOf, .ref o_taskAt, .int v_tasks, .int v_ties]))] := hD
      refine lv_if_eq (tgt := 38) hx hb dX2_placesAreSound_20 (by decide) (fun c4 => ?_) (fun c4 => ?_)
      · replace h := h.1 c4
        refine lv_iconst (v := 0) hx hb dX2_placesAreSound_38 (by decide) ?_
        exact gb_retz C () (hP.sub [2, 0, 1] rfl) (hD.sub [2, 0, 1] (by decide) rfl) hS (by decide) h dX2_placesAreSound_39
      · replace h := h.2 c4
        refine lv_aload_n hx hb dX2_placesAreSound_23 rfl (lv_at hl 0 rfl) ?_
        refine va_get (D := D) (ci := 2) (v := .ref o_taskAt) (C := RX2) (T := TX2) (N := 7) hx hb hts in_X2_placesAreSound_X2 hown hK.1 hP 2 rfl rfl 4 (by decide) (hts (.fieldLink RX2 25 "OrderKeeper$Net" "taskAt" "[I") (List.mem_of_getElem? (i := 3) rfl)) (fun _ h9 => h9) rfl dX2_placesAreSound_24 ?_
        refine lv_aload_n hx hb dX2_placesAreSound_27 rfl (lv_at hl 0 rfl) ?_
        refine va_get (D := D) (ci := 2) (v := .ref o_placeOf) (C := RX2) (T := TX2) (N := 7) hx hb hts in_X2_placesAreSound_X2 hown hK.1 hP 2 rfl rfl 3 (by decide) (hts (.fieldLink RX2 22 "OrderKeeper$Net" "placeOf" "[I") (List.mem_of_getElem? (i := 2) rfl)) (fun _ h9 => h9) rfl dX2_placesAreSound_28 ?_
        refine lv_iload_n hx hb dX2_placesAreSound_31 rfl (lv_at hl 1 rfl) ?_
        obtain ⟨hi5, h⟩ := h
        refine va_iald hx hb hK.1 hP 0 0 rfl rfl hi5 dX2_placesAreSound_32 ?_
        obtain ⟨hi6, h⟩ := h
        refine va_iald hx hb hK.1 hP 1 0 rfl rfl hi6 dX2_placesAreSound_33 ?_
        refine lv_iload_n hx hb dX2_placesAreSound_34 rfl (lv_at hl 1 rfl) ?_
        refine lv_icmp_eq (tgt := 40) hx hb dX2_placesAreSound_35 (by decide) (fun c7 => ?_) (fun c7 => ?_)
        · replace h := h.1 c7
          obtain ⟨x1_8, ex1_8⟩ : ∃ z : Int32, z = x1 + 1 := ⟨_, rfl⟩
          refine lv_iinc (v := x1_8) (lv' := [(1, .int x1_8), (0, .ref o)]) hx hb dX2_placesAreSound_40 hl (k := 1) rfl (by rw [ex1_8]; rfl) (by decide) rfl (fun ls hl => ?_)
          replace h := h x1_8 ex1_8
          refine lv_goto (tgt := 2) hx hb dX2_placesAreSound_43 (by decide) ?_
          exact ih x1_8 _ _ (hP.sub [2, 0, 1] rfl) (hD.sub [2, 0, 1] (by decide) rfl) hS ls (lv_sub hl [1, 0] rfl) h
        · replace h := h.2 c7
          refine lv_iconst (v := 0) hx hb dX2_placesAreSound_38 (by decide) ?_
          exact gb_retz C () (hP.sub [2, 0, 1] rfl) (hD.sub [2, 0, 1] (by decide) rfl) hS (by decide) h dX2_placesAreSound_39
def wp_X2_placesAreSound (v_tasks : Int32) (v_placeOf : Nat → Int32) (v_taskAt : Nat → Int32) (post : Int32 → Prop) : Prop := (∃ n2 : Nat, lp_X2_placesAreSound_2 v_tasks v_placeOf v_taskAt post n2 0 (post 1))
set_option maxHeartbeats 4000000 in
set_option maxRecDepth 100000 in
theorem c_X2_placesAreSound (l : Launch) (D : va_G) (cI cJ cZ cO : ClassId) (o : Nat) (o_weight : Nat) (o_after : Nat) (o_before : Nat) (o_placeOf : Nat) (o_taskAt : Nat) (v_tasks : Int32) (v_ties : Int32) (v_placeOf : Nat → Int32) (v_taskAt : Nat → Int32) (post : Int32 → Prop) (hw : wp_X2_placesAreSound v_tasks v_placeOf v_taskAt post) : gb_Ci D cI cJ cZ cO l yX2_placesAreSound wsX2_placesAreSound ({ frames := 1, cells := 0, slots := 0, locals := 21 }) [.ref o] [(o, .inr (2, [.ref o_weight, .ref o_after, .ref o_before, .ref o_placeOf, .ref o_taskAt, .int v_tasks, .int v_ties])), (o_placeOf, .inl (cI, 60, .inl v_placeOf)), (o_taskAt, .inl (cI, 60, .inl v_taskAt))] (fun (r : Int32) (_ : Unit) => post r ) (fun _ : Unit => [(o, .inr (2, [.ref o_weight, .ref o_after, .ref o_before, .ref o_placeOf, .ref o_taskAt, .int v_tasks, .int v_ties])), (o_placeOf, .inl (cI, 60, .inl v_placeOf)), (o_taskAt, .inl (cI, 60, .inl v_taskAt))]) 0 0 := by
  refine gb_mi (cc := cX2_placesAreSound) (maxL := 2) (ret := (some .boolean)) (by decide) rfl (Nat.le_of_ble_eq_true rfl) ?_
  · intro p e s m below meth c A C hP hD hS ls hl
    obtain ⟨hx, hb, hr, hml, hown, hts, hlocks, hnm, hK, hA⟩ := id C
    replace hown : s.vm.findClass RX2 = some m.cls := hown
    have h := hw
    unfold wp_X2_placesAreSound at h
    replace hl : lv_has ls 2 [(0, .ref o)] := hl
    refine lv_iconst (v := 0) hx hb dX2_placesAreSound_0 (by decide) ?_
    refine lv_istore_n (lv' := [(1, .int 0), (0, .ref o)]) hx hb dX2_placesAreSound_1 rfl hl (by decide) rfl (fun ls hl => ?_)
    obtain ⟨n2, h⟩ := h
    refine ml_X2_placesAreSound_2 o o_weight o_after o_before o_placeOf o_taskAt v_tasks v_ties v_placeOf v_taskAt C post _ ?_ n2 0 _ _ (hP.sub [0, 1, 2] rfl) (hD.sub [0, 1, 2] (by decide) rfl) hS ls (lv_sub hl [1, 0] rfl) h
    intro H locs hP hD hS ls hl h
    refine lv_iconst (v := 1) hx hb dX2_placesAreSound_46 (by decide) ?_
    exact gb_retz C () (hP.sub [0, 1, 2] rfl) (hD.sub [0, 1, 2] (by decide) rfl) hS (by decide) h dX2_placesAreSound_47
/-! OrderKeeper$Net.tiesLeadOn()Z -/
theorem in_X2_tiesLeadOn_X2 : ∀ w ∈ wsX20, w ∈ wsX2_tiesLeadOn := fun _ h => List.mem_cons_of_mem _ (List.mem_append_right _ h)
theorem hdS_X2_tiesLeadOn : yX2_tiesLeadOn.cls ≠ "java/lang/invoke/MethodHandle" ∧ yX2_tiesLeadOn.cls ≠ "java/lang/invoke/VarHandle" ∧ (parseMethodDescriptor yX2_tiesLeadOn.desc).map (fun d => d.parameters.length) = some 0 := by decide +kernel
theorem hdV_X2_tiesLeadOn : yX2_tiesLeadOn.cls = RX2 ∧ yX2_tiesLeadOn.cls ≠ "java/lang/invoke/MethodHandle" ∧ yX2_tiesLeadOn.cls ≠ "java/lang/invoke/VarHandle" ∧ (parseMethodDescriptor yX2_tiesLeadOn.desc).map (fun d => d.parameters.length) = some 0 := ⟨rfl, hdS_X2_tiesLeadOn⟩
theorem cw_X2_tiesLeadOn_63 {R : Room} {s : State} {args : Array Value} (hts : ∀ w ∈ wsX2_tiesLeadOn, w.before args s = true) (hR : 1 + 1 ≤ R.frames ∧ 8 + (3 + 11) + 22 ≤ R.locals) : CallW R s args RX2 RX2 63 yX2_hasTie cX2_hasTie 3 (some .boolean) wsX2_hasTie ({ frames := 1, cells := 0, slots := 0, locals := 22 }) 0 0 2 := cwV 2 hts gX2_tiesLeadOn_X2_hasTie rfl rfl rfl hdV_X2_hasTie hR
def lp_X2_tiesLeadOn_12 (v_tasks : Int32) (v_after : Nat → Int64) (v_placeOf : Nat → Int32) (x1 : Int32) (post : Int32 → Prop) : Nat → (Int32) → (Prop) → Prop
  | 0, _, _ => False
  | n12 + 1, x2, kx => ((v_tasks ≤ x2 → kx) ∧ (¬ (v_tasks ≤ x2) → wp_X2_hasTie v_after x1 x2 (fun (r_3 : Int32) => ((r_3 = 0 → ∀ x2_5 : Int32, x2_5 = x2 + 1 → lp_X2_tiesLeadOn_12 v_tasks v_after v_placeOf x1 post n12 x2_5 kx) ∧ (¬ (r_3 = 0) → vp_in x1 60 ∧ vp_in x2 60 ∧ (((v_placeOf x1.toNatClampNeg) < (v_placeOf x2.toNatClampNeg) → ∀ x2_9 : Int32, x2_9 = x2 + 1 → lp_X2_tiesLeadOn_12 v_tasks v_after v_placeOf x1 post n12 x2_9 kx) ∧ (¬ ((v_placeOf x1.toNatClampNeg) < (v_placeOf x2.toNatClampNeg)) → post 0)))))))
set_option maxHeartbeats 4000000 in
set_option maxRecDepth 100000 in
theorem ml_X2_tiesLeadOn_12 {D : va_G} {cI cJ cZ cO : ClassId} {p : Program} {l : Launch} {e : Env} {s : State} {m : MethodId} {below : List Frame} {meth : Method} {c : Code} {A : Nat → Prop} (o : Nat) (o_weight : Nat) (o_after : Nat) (o_before : Nat) (o_placeOf : Nat) (o_taskAt : Nat) (v_tasks : Int32) (v_ties : Int32) (v_after : Nat → Int64) (v_placeOf : Nat → Int32) (x1 : Int32) (C : gb_At D cI cJ cZ cO p s m meth c ([.ref o] : List Value).toArray A yX2_tiesLeadOn cX2_tiesLeadOn (some .boolean) 3 wsX2_tiesLeadOn) (post : Int32 → Prop) (kx : (Prop)) (hkx : ∀  (H : Heap) (locs : List Loc), va_P D vwCl [(o, .inr (2, [.ref o_weight, .ref o_after, .ref o_before, .ref o_placeOf, .ref o_taskAt, .int v_tasks, .int v_ties])), (o_after, .inl (cJ, 60, .inr (.inl v_after))), (o_placeOf, .inl (cI, 60, .inl v_placeOf))] H → va_D A [(o, .inr (2, [.ref o_weight, .ref o_after, .ref o_before, .ref o_placeOf, .ref o_taskAt, .int v_tasks, .int v_ties])), (o_after, .inl (cJ, 60, .inr (.inl v_after))), (o_placeOf, .inl (cI, 60, .inl v_placeOf))] → va_S A s.heap H locs → ∀ ls : Array Slot, lv_has ls 3 [(0, .ref o), (1, .int x1)] → kx  → W p l e ({ frames := 2, cells := 0, slots := 0, locals := 44 } : Room) s m ([.ref o] : List Value).toArray below meth c H locs 0 0 (MQ below (va_Qi (fun (r : Int32) (_ : Unit) => post r ) (gb_B D (fun _ : Unit => [(o, .inr (2, [.ref o_weight, .ref o_after, .ref o_before, .ref o_placeOf, .ref o_taskAt, .int v_tasks, .int v_ties])), (o_after, .inl (cJ, 60, .inr (.inl v_after))), (o_placeOf, .inl (cI, 60, .inl v_placeOf))]) A) A) ([.ref o] : List Value).toArray s 0 0 A) (F0 m 52 ls [])) :
    ∀ (n12 : Nat) (x2 : Int32) (H : Heap) (locs : List Loc), va_P D vwCl [(o, .inr (2, [.ref o_weight, .ref o_after, .ref o_before, .ref o_placeOf, .ref o_taskAt, .int v_tasks, .int v_ties])), (o_after, .inl (cJ, 60, .inr (.inl v_after))), (o_placeOf, .inl (cI, 60, .inl v_placeOf))] H → va_D A [(o, .inr (2, [.ref o_weight, .ref o_after, .ref o_before, .ref o_placeOf, .ref o_taskAt, .int v_tasks, .int v_ties])), (o_after, .inl (cJ, 60, .inr (.inl v_after))), (o_placeOf, .inl (cI, 60, .inl v_placeOf))] → va_S A s.heap H locs → ∀ ls : Array Slot, lv_has ls 3 [(0, .ref o), (1, .int x1), (2, .int x2)] → lp_X2_tiesLeadOn_12 v_tasks v_after v_placeOf x1 post n12 x2 kx → W p l e ({ frames := 2, cells := 0, slots := 0, locals := 44 } : Room) s m ([.ref o] : List Value).toArray below meth c H locs 0 0 (MQ below (va_Qi (fun (r : Int32) (_ : Unit) => post r ) (gb_B D (fun _ : Unit => [(o, .inr (2, [.ref o_weight, .ref o_after, .ref o_before, .ref o_placeOf, .ref o_taskAt, .int v_tasks, .int v_ties])), (o_after, .inl (cJ, 60, .inr (.inl v_after))), (o_placeOf, .inl (cI, 60, .inl v_placeOf))]) A) A) ([.ref o] : List Value).toArray s 0 0 A) (F0 m 12 ls []) := by
  obtain ⟨hx, hb, hr, hml, hown, hts, hlocks, hnm, hK, hA⟩ := id C
  replace hown : s.vm.findClass RX2 = some m.cls := hown
  intro n12
  induction n12 with
  | zero => intro x2 H locs hP hD hS ls hl h; exact False.elim h
  | succ n12 ih =>
    intro x2 H locs hP hD hS ls hl h
    rw [lp_X2_tiesLeadOn_12] at h
    refine lv_iload_n hx hb dX2_tiesLeadOn_12 rfl (lv_at hl 2 rfl) ?_
    refine lv_aload_n hx hb dX2_tiesLeadOn_13 rfl (lv_at hl 0 rfl) ?_
    refine va_get (D := D) (ci := 2) (v := .int v_tasks) (C := RX2) (T := TX2) (N := 7) hx hb hts in_X2_tiesLeadOn_X2 hown hK.1 hP 0 rfl rfl 5 (by decide) (hts (.fieldLink RX2 34 "OrderKeeper$Net" "tasks" "I") (List.mem_of_getElem? (i := 1) rfl)) (fun _ h9 => h9) rfl dX2_tiesLeadOn_14 ?_
    refine lv_icmp_ge (tgt := 52) hx hb dX2_tiesLeadOn_17 (by decide) (fun c2 => ?_) (fun c2 => ?_)
    · replace h := h.1 c2
      exact hkx _ _ (hP.sub [0, 1, 2] rfl) (hD.sub [0, 1, 2] (by decide) rfl) hS ls (lv_sub hl [0, 1] rfl) h
    · replace h := h.2 c2
      refine lv_aload_n hx hb dX2_tiesLeadOn_20 rfl (lv_at hl 0 rfl) ?_
      refine lv_iload_n hx hb dX2_tiesLeadOn_21 rfl (lv_at hl 1 rfl) ?_
      refine lv_iload_n hx hb dX2_tiesLeadOn_22 rfl (lv_at hl 2 rfl) ?_
      refine gb_ki (wc := [(o, .inr (2, [.ref o_weight, .ref o_after, .ref o_before, .ref o_placeOf, .ref o_taskAt, .int v_tasks, .int v_ties])), (o_after, .inl (cJ, 60, .inr (.inl v_after)))]) (wr := [(o_placeOf, .inl (cI, 60, .inl v_placeOf))]) C hP hD hS [0, 1] [2] rfl rfl (by decide) (gb_rV (As := [.int x1, .int x2]) (rest := []) C ((c_X2_hasTie l D cI cJ cZ cO o o_weight o_after o_before o_placeOf o_taskAt v_tasks v_ties v_after x1 x2 _ h) _) rfl (cw_X2_tiesLeadOn_63 hts ⟨Nat.le_of_ble_eq_true rfl, Nat.le_of_ble_eq_true rfl⟩) (ci := 2) (q0 := 0) rfl rfl rfl rfl hl.1 rfl (Nat.le_of_ble_eq_true rfl) dX2_tiesLeadOn_23 ⟨Nat.zero_le _, Nat.zero_le _⟩) ?_
      rintro r_3 _ H locs h hP hD hS
      try dsimp only at h
      replace hP : va_P D vwCl [(o_placeOf, .inl (cI, 60, .inl v_placeOf)), (o, .inr (2, [.ref o_weight, .ref o_after, .ref o_before, .ref o_placeOf, .ref o_taskAt, .int v_tasks, .int v_ties])), (o_after, .inl (cJ, 60, .inr (.inl v_after)))] H := hP
      replace hD : va_D A [(o_placeOf, .inl (cI, 60, .inl v_placeOf)), (o, .inr (2, [.ref o_weight, .ref o_after, .ref o_before, .ref o_placeOf, .ref o_taskAt, .int v_tasks, .int v_ties])), (o_after, .inl (cJ, 60, .inr (.inl v_after)))] := hD
      refine lv_if_eq (tgt := 46) hx hb dX2_tiesLeadOn_26 (by decide) (fun c4 => ?_) (fun c4 => ?_)
      · replace h := h.1 c4
        obtain ⟨x2_5, ex2_5⟩ : ∃ z : Int32, z = x2 + 1 := ⟨_, rfl⟩
        refine lv_iinc (v := x2_5) (lv' := [(2, .int x2_5), (0, .ref o), (1, .int x1)]) hx hb dX2_tiesLeadOn_46 hl (k := 2) rfl (by rw [ex2_5]; rfl) (by decide) rfl (fun ls hl => ?_)
        replace h := h x2_5 ex2_5
        refine lv_goto (tgt := 12) hx hb dX2_tiesLeadOn_49 (by decide) ?_
        exact ih x2_5 _ _ (hP.sub [1, 2, 0] rfl) (hD.sub [1, 2, 0] (by decide) rfl) hS ls (lv_sub hl [1, 2, 0] rfl) h
      · replace h := h.2 c4
        refine lv_aload_n hx hb dX2_tiesLeadOn_29 rfl (lv_at hl 0 rfl) ?_
        refine va_get (D := D) (ci := 2) (v := .ref o_placeOf) (C := RX2) (T := TX2) (N := 7) hx hb hts in_X2_tiesLeadOn_X2 hown hK.1 hP 1 rfl rfl 3 (by decide) (hts (.fieldLink RX2 22 "OrderKeeper$Net" "placeOf" "[I") (List.mem_of_getElem? (i := 2) rfl)) (fun _ h9 => h9) rfl dX2_tiesLeadOn_30 ?_
        refine lv_iload_n hx hb dX2_tiesLeadOn_33 rfl (lv_at hl 1 rfl) ?_
        obtain ⟨hi6, h⟩ := h
        refine va_iald hx hb hK.1 hP 0 0 rfl rfl hi6 dX2_tiesLeadOn_34 ?_
        refine lv_aload_n hx hb dX2_tiesLeadOn_35 rfl (lv_at hl 0 rfl) ?_
        refine va_get (D := D) (ci := 2) (v := .ref o_placeOf) (C := RX2) (T := TX2) (N := 7) hx hb hts in_X2_tiesLeadOn_X2 hown hK.1 hP 1 rfl rfl 3 (by decide) (hts (.fieldLink RX2 22 "OrderKeeper$Net" "placeOf" "[I") (List.mem_of_getElem? (i := 2) rfl)) (fun _ h9 => h9) rfl dX2_tiesLeadOn_36 ?_
        refine lv_iload_n hx hb dX2_tiesLeadOn_39 rfl (lv_at hl 2 rfl) ?_
        obtain ⟨hi7, h⟩ := h
        refine va_iald hx hb hK.1 hP 0 0 rfl rfl hi7 dX2_tiesLeadOn_40 ?_
        refine lv_icmp_lt (tgt := 46) hx hb dX2_tiesLeadOn_41 (by decide) (fun c8 => ?_) (fun c8 => ?_)
        · replace h := h.1 c8
          obtain ⟨x2_9, ex2_9⟩ : ∃ z : Int32, z = x2 + 1 := ⟨_, rfl⟩
          refine lv_iinc (v := x2_9) (lv' := [(2, .int x2_9), (0, .ref o), (1, .int x1)]) hx hb dX2_tiesLeadOn_46 hl (k := 2) rfl (by rw [ex2_9]; rfl) (by decide) rfl (fun ls hl => ?_)
          replace h := h x2_9 ex2_9
          refine lv_goto (tgt := 12) hx hb dX2_tiesLeadOn_49 (by decide) ?_
          exact ih x2_9 _ _ (hP.sub [1, 2, 0] rfl) (hD.sub [1, 2, 0] (by decide) rfl) hS ls (lv_sub hl [1, 2, 0] rfl) h
        · replace h := h.2 c8
          refine lv_iconst (v := 0) hx hb dX2_tiesLeadOn_44 (by decide) ?_
          exact gb_retz C () (hP.sub [1, 2, 0] rfl) (hD.sub [1, 2, 0] (by decide) rfl) hS (by decide) h dX2_tiesLeadOn_45
def lp_X2_tiesLeadOn_2 (v_tasks : Int32) (v_after : Nat → Int64) (v_placeOf : Nat → Int32) (post : Int32 → Prop) : Nat → (Int32) → (Prop) → Prop
  | 0, _, _ => False
  | n2 + 1, x1, kx => ((v_tasks ≤ x1 → kx) ∧ (¬ (v_tasks ≤ x1) → (∃ n12 : Nat, lp_X2_tiesLeadOn_12 v_tasks v_after v_placeOf x1 post n12 0 (∀ x1_10 : Int32, x1_10 = x1 + 1 → lp_X2_tiesLeadOn_2 v_tasks v_after v_placeOf post n2 x1_10 kx))))
set_option maxHeartbeats 4000000 in
set_option maxRecDepth 100000 in
theorem ml_X2_tiesLeadOn_2 {D : va_G} {cI cJ cZ cO : ClassId} {p : Program} {l : Launch} {e : Env} {s : State} {m : MethodId} {below : List Frame} {meth : Method} {c : Code} {A : Nat → Prop} (o : Nat) (o_weight : Nat) (o_after : Nat) (o_before : Nat) (o_placeOf : Nat) (o_taskAt : Nat) (v_tasks : Int32) (v_ties : Int32) (v_after : Nat → Int64) (v_placeOf : Nat → Int32) (C : gb_At D cI cJ cZ cO p s m meth c ([.ref o] : List Value).toArray A yX2_tiesLeadOn cX2_tiesLeadOn (some .boolean) 3 wsX2_tiesLeadOn) (post : Int32 → Prop) (kx : (Prop)) (hkx : ∀  (H : Heap) (locs : List Loc), va_P D vwCl [(o, .inr (2, [.ref o_weight, .ref o_after, .ref o_before, .ref o_placeOf, .ref o_taskAt, .int v_tasks, .int v_ties])), (o_after, .inl (cJ, 60, .inr (.inl v_after))), (o_placeOf, .inl (cI, 60, .inl v_placeOf))] H → va_D A [(o, .inr (2, [.ref o_weight, .ref o_after, .ref o_before, .ref o_placeOf, .ref o_taskAt, .int v_tasks, .int v_ties])), (o_after, .inl (cJ, 60, .inr (.inl v_after))), (o_placeOf, .inl (cI, 60, .inl v_placeOf))] → va_S A s.heap H locs → ∀ ls : Array Slot, lv_has ls 3 [] → kx  → W p l e ({ frames := 2, cells := 0, slots := 0, locals := 44 } : Room) s m ([.ref o] : List Value).toArray below meth c H locs 0 0 (MQ below (va_Qi (fun (r : Int32) (_ : Unit) => post r ) (gb_B D (fun _ : Unit => [(o, .inr (2, [.ref o_weight, .ref o_after, .ref o_before, .ref o_placeOf, .ref o_taskAt, .int v_tasks, .int v_ties])), (o_after, .inl (cJ, 60, .inr (.inl v_after))), (o_placeOf, .inl (cI, 60, .inl v_placeOf))]) A) A) ([.ref o] : List Value).toArray s 0 0 A) (F0 m 58 ls [])) :
    ∀ (n2 : Nat) (x1 : Int32) (H : Heap) (locs : List Loc), va_P D vwCl [(o, .inr (2, [.ref o_weight, .ref o_after, .ref o_before, .ref o_placeOf, .ref o_taskAt, .int v_tasks, .int v_ties])), (o_after, .inl (cJ, 60, .inr (.inl v_after))), (o_placeOf, .inl (cI, 60, .inl v_placeOf))] H → va_D A [(o, .inr (2, [.ref o_weight, .ref o_after, .ref o_before, .ref o_placeOf, .ref o_taskAt, .int v_tasks, .int v_ties])), (o_after, .inl (cJ, 60, .inr (.inl v_after))), (o_placeOf, .inl (cI, 60, .inl v_placeOf))] → va_S A s.heap H locs → ∀ ls : Array Slot, lv_has ls 3 [(0, .ref o), (1, .int x1)] → lp_X2_tiesLeadOn_2 v_tasks v_after v_placeOf post n2 x1 kx → W p l e ({ frames := 2, cells := 0, slots := 0, locals := 44 } : Room) s m ([.ref o] : List Value).toArray below meth c H locs 0 0 (MQ below (va_Qi (fun (r : Int32) (_ : Unit) => post r ) (gb_B D (fun _ : Unit => [(o, .inr (2, [.ref o_weight, .ref o_after, .ref o_before, .ref o_placeOf, .ref o_taskAt, .int v_tasks, .int v_ties])), (o_after, .inl (cJ, 60, .inr (.inl v_after))), (o_placeOf, .inl (cI, 60, .inl v_placeOf))]) A) A) ([.ref o] : List Value).toArray s 0 0 A) (F0 m 2 ls []) := by
  obtain ⟨hx, hb, hr, hml, hown, hts, hlocks, hnm, hK, hA⟩ := id C
  replace hown : s.vm.findClass RX2 = some m.cls := hown
  intro n2
  induction n2 with
  | zero => intro x1 H locs hP hD hS ls hl h; exact False.elim h
  | succ n2 ih =>
    intro x1 H locs hP hD hS ls hl h
    rw [lp_X2_tiesLeadOn_2] at h
    refine lv_iload_n hx hb dX2_tiesLeadOn_2 rfl (lv_at hl 1 rfl) ?_
    refine lv_aload_n hx hb dX2_tiesLeadOn_3 rfl (lv_at hl 0 rfl) ?_
    refine va_get (D := D) (ci := 2) (v := .int v_tasks) (C := RX2) (T := TX2) (N := 7) hx hb hts in_X2_tiesLeadOn_X2 hown hK.1 hP 0 rfl rfl 5 (by decide) (hts (.fieldLink RX2 34 "OrderKeeper$Net" "tasks" "I") (List.mem_of_getElem? (i := 1) rfl)) (fun _ h9 => h9) rfl dX2_tiesLeadOn_4 ?_
    refine lv_icmp_ge (tgt := 58) hx hb dX2_tiesLeadOn_7 (by decide) (fun c1 => ?_) (fun c1 => ?_)
    · replace h := h.1 c1
      exact hkx _ _ (hP.sub [0, 1, 2] rfl) (hD.sub [0, 1, 2] (by decide) rfl) hS ls (lv_sub hl [] rfl) h
    · replace h := h.2 c1
      refine lv_iconst (v := 0) hx hb dX2_tiesLeadOn_10 (by decide) ?_
      refine lv_istore_n (lv' := [(2, .int 0), (0, .ref o), (1, .int x1)]) hx hb dX2_tiesLeadOn_11 rfl hl (by decide) rfl (fun ls hl => ?_)
      obtain ⟨n12, h⟩ := h
      refine ml_X2_tiesLeadOn_12 o o_weight o_after o_before o_placeOf o_taskAt v_tasks v_ties v_after v_placeOf x1 C post _ ?_ n12 0 _ _ (hP.sub [0, 1, 2] rfl) (hD.sub [0, 1, 2] (by decide) rfl) hS ls (lv_sub hl [1, 2, 0] rfl) h
      intro H locs hP hD hS ls hl h
      obtain ⟨x1_10, ex1_10⟩ : ∃ z : Int32, z = x1 + 1 := ⟨_, rfl⟩
      refine lv_iinc (v := x1_10) (lv' := [(1, .int x1_10), (0, .ref o)]) hx hb dX2_tiesLeadOn_52 hl (k := 1) rfl (by rw [ex1_10]; rfl) (by decide) rfl (fun ls hl => ?_)
      replace h := h x1_10 ex1_10
      refine lv_goto (tgt := 2) hx hb dX2_tiesLeadOn_55 (by decide) ?_
      exact ih x1_10 _ _ (hP.sub [0, 1, 2] rfl) (hD.sub [0, 1, 2] (by decide) rfl) hS ls (lv_sub hl [1, 0] rfl) h
def wp_X2_tiesLeadOn (v_tasks : Int32) (v_after : Nat → Int64) (v_placeOf : Nat → Int32) (post : Int32 → Prop) : Prop := (∃ n2 : Nat, lp_X2_tiesLeadOn_2 v_tasks v_after v_placeOf post n2 0 (post 1))
set_option maxHeartbeats 4000000 in
set_option maxRecDepth 100000 in
theorem c_X2_tiesLeadOn (l : Launch) (D : va_G) (cI cJ cZ cO : ClassId) (o : Nat) (o_weight : Nat) (o_after : Nat) (o_before : Nat) (o_placeOf : Nat) (o_taskAt : Nat) (v_tasks : Int32) (v_ties : Int32) (v_after : Nat → Int64) (v_placeOf : Nat → Int32) (post : Int32 → Prop) (hw : wp_X2_tiesLeadOn v_tasks v_after v_placeOf post) : gb_Ci D cI cJ cZ cO l yX2_tiesLeadOn wsX2_tiesLeadOn ({ frames := 2, cells := 0, slots := 0, locals := 44 }) [.ref o] [(o, .inr (2, [.ref o_weight, .ref o_after, .ref o_before, .ref o_placeOf, .ref o_taskAt, .int v_tasks, .int v_ties])), (o_after, .inl (cJ, 60, .inr (.inl v_after))), (o_placeOf, .inl (cI, 60, .inl v_placeOf))] (fun (r : Int32) (_ : Unit) => post r ) (fun _ : Unit => [(o, .inr (2, [.ref o_weight, .ref o_after, .ref o_before, .ref o_placeOf, .ref o_taskAt, .int v_tasks, .int v_ties])), (o_after, .inl (cJ, 60, .inr (.inl v_after))), (o_placeOf, .inl (cI, 60, .inl v_placeOf))]) 0 0 := by
  refine gb_mi (cc := cX2_tiesLeadOn) (maxL := 3) (ret := (some .boolean)) (by decide) rfl (Nat.le_of_ble_eq_true rfl) ?_
  · intro p e s m below meth c A C hP hD hS ls hl
    obtain ⟨hx, hb, hr, hml, hown, hts, hlocks, hnm, hK, hA⟩ := id C
    replace hown : s.vm.findClass RX2 = some m.cls := hown
    have h := hw
    unfold wp_X2_tiesLeadOn at h
    replace hl : lv_has ls 3 [(0, .ref o)] := hl
    refine lv_iconst (v := 0) hx hb dX2_tiesLeadOn_0 (by decide) ?_
    refine lv_istore_n (lv' := [(1, .int 0), (0, .ref o)]) hx hb dX2_tiesLeadOn_1 rfl hl (by decide) rfl (fun ls hl => ?_)
    obtain ⟨n2, h⟩ := h
    refine ml_X2_tiesLeadOn_2 o o_weight o_after o_before o_placeOf o_taskAt v_tasks v_ties v_after v_placeOf C post _ ?_ n2 0 _ _ (hP.sub [0, 1, 2] rfl) (hD.sub [0, 1, 2] (by decide) rfl) hS ls (lv_sub hl [1, 0] rfl) h
    intro H locs hP hD hS ls hl h
    refine lv_iconst (v := 1) hx hb dX2_tiesLeadOn_58 (by decide) ?_
    exact gb_retz C () (hP.sub [0, 1, 2] rfl) (hD.sub [0, 1, 2] (by decide) rfl) hS (by decide) h dX2_tiesLeadOn_59
