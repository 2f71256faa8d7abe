theorem in_X3_takeBack_X3 : ∀ w ∈ wsX30, w ∈ wsX3_takeBack := fun _ h => List.mem_cons_of_mem _ (List.mem_append_left _ (List.mem_append_right _ h))
theorem hdS_X3_takeBack : yX3_takeBack.cls ≠ "java/lang/invoke/MethodHandle" ∧ yX3_takeBack.cls ≠ "java/lang/invoke/VarHandle" ∧ (parseMethodDescriptor yX3_takeBack.desc).map (fun d => d.parameters.length) = some 1 := by decide +kernel
theorem hdV_X3_takeBack : yX3_takeBack.cls = RX3 ∧ yX3_takeBack.cls ≠ "java/lang/invoke/MethodHandle" ∧ yX3_takeBack.cls ≠ "java/lang/invoke/VarHandle" ∧ (parseMethodDescriptor yX3_takeBack.desc).map (fun d => d.parameters.length) = some 1 := ⟨rfl, hdS_X3_takeBack⟩
theorem cw_X3_takeBack_22 {R : Room} {s : State} {args : Array Value} (hts : ∀ w ∈ wsX3_takeBack, w.before args s = true) (hR : 1 + 1 ≤ R.frames ∧ 8 + (2 + 11) + 64 ≤ R.locals) : CallW R s args RX3 RX2 22 yX2_copyFrom cX2_copyFrom 2 none wsX2_copyFrom ({ frames := 1, cells := 0, slots := 0, locals := 64 }) 0 0 1 := cwV 1 hts gX3_takeBack_X2_copyFrom rfl rfl rfl hdV_X2_copyFrom hR
def wp_X3_takeBack (v_remembered v_next : Int32) (v_K : Nat → Option pn_c) (w1_weight : Nat → Int32) (w1_after w1_before : Nat → Int64) (w1_placeOf w1_taskAt : Nat → Int32) (w1_tasks w1_ties : Int32) (post : Int32 → Int32 → Int32 → (Nat → Int32) → (Nat → Int64) → (Nat → Int64) → (Nat → Int32) → (Nat → Int32) → Int32 → Int32 → Prop) : Prop := (v_remembered = 0 → post 0 v_remembered v_next w1_weight w1_after w1_before w1_placeOf w1_taskAt w1_tasks w1_ties) ∧ (¬ v_remembered = 0 → ∀ n1 : Int32, n1 = (v_next + 64 - 1) - (v_next + 64 - 1) / 64 * 64 → ∀ r1 : Int32, r1 = v_remembered - 1 → vp_in n1 64 ∧ (v_K n1.toNatClampNeg = none → post 0 r1 n1 w1_weight w1_after w1_before w1_placeOf w1_taskAt w1_tasks w1_ties) ∧ ∀ z : pn_c, v_K n1.toNatClampNeg = some z → post 1 r1 n1 (va_cpy z.1 w1_weight 0 0 60) (va_cpy z.2.1 w1_after 0 0 60) (va_cpy z.2.2.1 w1_before 0 0 60) (va_cpy z.2.2.2.1 w1_placeOf 0 0 60) (va_cpy z.2.2.2.2.1 w1_taskAt 0 0 60) z.2.2.2.2.2.1 z.2.2.2.2.2.2)
set_option maxHeartbeats 4000000 in
set_option maxRecDepth 100000 in
theorem c_X3_takeBack (l : Launch) (D : va_G) (cI cJ cZ cO : ClassId) (o o_held o_kept q1 q1_weight q1_after q1_before q1_placeOf q1_taskAt : Nat) (v_remembered v_next : Int32) (w1_weight : Nat → Int32) (w1_after w1_before : Nat → Int64) (w1_placeOf w1_taskAt : Nat → Int32) (w1_tasks w1_ties : Int32) (g : Nat → Option Nat) (L : List pn_b) (v_K : Nat → Option pn_c) (hok : pn_ok g L v_K) (post : Int32 → Int32 → Int32 → (Nat → Int32) → (Nat → Int64) → (Nat → Int64) → (Nat → Int32) → (Nat → Int32) → Int32 → Int32 → Prop) (hw : wp_X3_takeBack v_remembered v_next v_K w1_weight w1_after w1_before w1_placeOf w1_taskAt w1_tasks w1_ties post) : gb_Ci D cI cJ cZ cO l yX3_takeBack wsX3_takeBack ({ frames := 2, cells := 0, slots := 0, locals := 85 }) [.ref o, .ref q1] ([(o, .inr (3, [.ref o_held, .int v_remembered, .ref o_kept, .int v_next])), (o_kept, .inl (cO, 64, .inr (.inr (.inr (.inr g))))), (q1, .inr (2, [.ref q1_weight, .ref q1_after, .ref q1_before, .ref q1_placeOf, .ref q1_taskAt, .int w1_tasks, .int w1_ties])), (q1_weight, .inl (cI, 60, .inl w1_weight)), (q1_after, .inl (cJ, 60, .inr (.inl w1_after))), (q1_before, .inl (cJ, 60, .inr (.inl w1_before))), (q1_placeOf, .inl (cI, 60, .inl w1_placeOf)), (q1_taskAt, .inl (cI, 60, .inl w1_taskAt))] ++ pn_P cI cJ L) (fun (r : Int32) (u : Int32 × Int32 × pn_c) => post r u.1 u.2.1 u.2.2.1 u.2.2.2.1 u.2.2.2.2.1 u.2.2.2.2.2.1 u.2.2.2.2.2.2.1 u.2.2.2.2.2.2.2.1 u.2.2.2.2.2.2.2.2) (fun u : Int32 × Int32 × pn_c => [(o, .inr (3, [.ref o_held, .int u.1, .ref o_kept, .int u.2.1])), (o_kept, .inl (cO, 64, .inr (.inr (.inr (.inr g))))), (q1, .inr (2, [.ref q1_weight, .ref q1_after, .ref q1_before, .ref q1_placeOf, .ref q1_taskAt, .int u.2.2.2.2.2.2.2.1, .int u.2.2.2.2.2.2.2.2])), (q1_weight, .inl (cI, 60, .inl u.2.2.1)), (q1_after, .inl (cJ, 60, .inr (.inl u.2.2.2.1))), (q1_before, .inl (cJ, 60, .inr (.inl u.2.2.2.2.1))), (q1_placeOf, .inl (cI, 60, .inl u.2.2.2.2.2.1)), (q1_taskAt, .inl (cI, 60, .inl u.2.2.2.2.2.2.1))] ++ pn_P cI cJ L) 0 0 := by
  refine gb_mi (cc := cX3_takeBack) (maxL := 3) (ret := some .boolean) (by decide) rfl (Nat.le_of_ble_eq_true rfl) ?_
  · intro p e s m below meth c A C hP hD hS ls hl
    obtain ⟨hx, hb, hr, hml, hown, hts, hlocks, hnm, hK, hA⟩ := id C
    replace hown : s.vm.findClass RX3 = some m.cls := hown
    have h := hw
    unfold wp_X3_takeBack at h
    replace hl : lv_has ls 3 [(0, .ref o), (1, .ref q1)] := hl
    refine lv_aload_n hx hb dX3_takeBack_0 rfl (lv_at hl 0 rfl) ?_
    refine va_get (D := D) (ci := 3) (v := .int v_remembered) (C := RX3) (T := TX3) (N := 4) hx hb hts in_X3_takeBack_X3 hown hK.1 hP 0 rfl rfl 1 (by decide) (hts (.fieldLink RX3 30 "OrderKeeper$Past" "remembered" "I") (List.mem_of_getElem? (i := 1) rfl)) (fun _ h9 => h9) rfl dX3_takeBack_1 ?_
    refine lv_if_ne (tgt := 9) hx hb dX3_takeBack_4 (by decide) (fun c1 => ?_) (fun c1 => ?_)
    · replace h := h.2 c1
      refine lv_aload_n hx hb dX3_takeBack_9 rfl (lv_at hl 0 rfl) ?_
      refine lv_aload_n hx hb dX3_takeBack_10 rfl (lv_at hl 0 rfl) ?_
      refine va_get (D := D) (ci := 3) (v := .int v_next) (C := RX3) (T := TX3) (N := 4) hx hb hts in_X3_takeBack_X3 hown hK.1 hP 0 rfl rfl 3 (by decide) (hts (.fieldLink RX3 26 "OrderKeeper$Past" "next" "I") (List.mem_of_getElem? (i := 2) rfl)) (fun _ h9 => h9) rfl dX3_takeBack_11 ?_
      refine lv_bipush (v := 64) hx hb dX3_takeBack_14 (by decide) ?_
      refine lv_iadd hx hb dX3_takeBack_16 ?_
      refine lv_iconst (v := 1) hx hb dX3_takeBack_17 (by decide) ?_
      refine lv_isub hx hb dX3_takeBack_18 ?_
      refine lv_bipush (v := 64) hx hb dX3_takeBack_19 (by decide) ?_
      refine lv_irem hx hb dX3_takeBack_21 (by decide) ?_
      refine lv_topi (fun n1 en1 => ?_)
      replace h := h n1 en1
      refine va_put (D := D) (ci := 3) (v := .int n1) (ty := .int) (C := RX3) (T := TX3) (N := 4) hx hb hts in_X3_takeBack_X3 tyX3 tyX3_ok nmX3 hown hK.1 hP hD hS 0 rfl rfl 3 (by decide) (hts (.fieldLink RX3 26 "OrderKeeper$Past" "next" "I") (List.mem_of_getElem? (i := 2) rfl)) (fun _ h9 => h9) rfl (tyX3_ok 3 (by decide)) rfl rfl (Nat.le_of_ble_eq_true rfl) dX3_takeBack_22 (fun H locs hP hD hS => ?_)
      replace hP : va_P D vwCl ([(o, .inr (3, [.ref o_held, .int v_remembered, .ref o_kept, .int n1])), (o_kept, .inl (cO, 64, .inr (.inr (.inr (.inr g))))), (q1, .inr (2, [.ref q1_weight, .ref q1_after, .ref q1_before, .ref q1_placeOf, .ref q1_taskAt, .int w1_tasks, .int w1_ties])), (q1_weight, .inl (cI, 60, .inl w1_weight)), (q1_after, .inl (cJ, 60, .inr (.inl w1_after))), (q1_before, .inl (cJ, 60, .inr (.inl w1_before))), (q1_placeOf, .inl (cI, 60, .inl w1_placeOf)), (q1_taskAt, .inl (cI, 60, .inl w1_taskAt))] ++ pn_P cI cJ L) H := hP
      replace hD : va_D A ([(o, .inr (3, [.ref o_held, .int v_remembered, .ref o_kept, .int n1])), (o_kept, .inl (cO, 64, .inr (.inr (.inr (.inr g))))), (q1, .inr (2, [.ref q1_weight, .ref q1_after, .ref q1_before, .ref q1_placeOf, .ref q1_taskAt, .int w1_tasks, .int w1_ties])), (q1_weight, .inl (cI, 60, .inl w1_weight)), (q1_after, .inl (cJ, 60, .inr (.inl w1_after))), (q1_before, .inl (cJ, 60, .inr (.inl w1_before))), (q1_placeOf, .inl (cI, 60, .inl w1_placeOf)), (q1_taskAt, .inl (cI, 60, .inl w1_taskAt))] ++ pn_P cI cJ L) := hD
      refine lv_aload_n hx hb dX3_takeBack_25 rfl (lv_at hl 0 rfl) ?_
      refine lv_dup hx hb dX3_takeBack_26 rfl ?_
      refine va_get (D := D) (ci := 3) (v := .int v_remembered) (C := RX3) (T := TX3) (N := 4) hx hb hts in_X3_takeBack_X3 hown hK.1 hP 0 rfl rfl 1 (by decide) (hts (.fieldLink RX3 30 "OrderKeeper$Past" "remembered" "I") (List.mem_of_getElem? (i := 1) rfl)) (fun _ h9 => h9) rfl dX3_takeBack_27 ?_
      refine lv_iconst (v := 1) hx hb dX3_takeBack_30 (by decide) ?_
      refine lv_isub hx hb dX3_takeBack_31 ?_
      refine lv_topi (fun r1 er1 => ?_)
      replace h := h r1 er1
      refine va_put (D := D) (ci := 3) (v := .int r1) (ty := .int) (C := RX3) (T := TX3) (N := 4) hx hb hts in_X3_takeBack_X3 tyX3 tyX3_ok nmX3 hown hK.1 hP hD hS 0 rfl rfl 1 (by decide) (hts (.fieldLink RX3 30 "OrderKeeper$Past" "remembered" "I") (List.mem_of_getElem? (i := 1) rfl)) (fun _ h9 => h9) rfl (tyX3_ok 1 (by decide)) rfl rfl (Nat.le_of_ble_eq_true rfl) dX3_takeBack_32 (fun H locs hP hD hS => ?_)
      replace hP : va_P D vwCl ([(o, .inr (3, [.ref o_held, .int r1, .ref o_kept, .int n1])), (o_kept, .inl (cO, 64, .inr (.inr (.inr (.inr g))))), (q1, .inr (2, [.ref q1_weight, .ref q1_after, .ref q1_before, .ref q1_placeOf, .ref q1_taskAt, .int w1_tasks, .int w1_ties])), (q1_weight, .inl (cI, 60, .inl w1_weight)), (q1_after, .inl (cJ, 60, .inr (.inl w1_after))), (q1_before, .inl (cJ, 60, .inr (.inl w1_before))), (q1_placeOf, .inl (cI, 60, .inl w1_placeOf)), (q1_taskAt, .inl (cI, 60, .inl w1_taskAt))] ++ pn_P cI cJ L) H := hP
      replace hD : va_D A ([(o, .inr (3, [.ref o_held, .int r1, .ref o_kept, .int n1])), (o_kept, .inl (cO, 64, .inr (.inr (.inr (.inr g))))), (q1, .inr (2, [.ref q1_weight, .ref q1_after, .ref q1_before, .ref q1_placeOf, .ref q1_taskAt, .int w1_tasks, .int w1_ties])), (q1_weight, .inl (cI, 60, .inl w1_weight)), (q1_after, .inl (cJ, 60, .inr (.inl w1_after))), (q1_before, .inl (cJ, 60, .inr (.inl w1_before))), (q1_placeOf, .inl (cI, 60, .inl w1_placeOf)), (q1_taskAt, .inl (cI, 60, .inl w1_taskAt))] ++ pn_P cI cJ L) := hD
      obtain ⟨hin, h1, h2⟩ := h
      obtain ⟨j, hj, ej⟩ := vp_in_of hin (by decide)
      have ejn : n1.toNatClampNeg = j := by rw [ej]; exact nI_clamp (by omega)
      refine lv_aload_n hx hb dX3_takeBack_35 rfl (lv_at hl 0 rfl) ?_
      refine va_get (D := D) (ci := 3) (v := .ref o_kept) (C := RX3) (T := TX3) (N := 4) hx hb hts in_X3_takeBack_X3 hown hK.1 hP 0 rfl rfl 2 (by decide) (hts (.fieldLink RX3 18 "OrderKeeper$Past" "kept" "[LOrderKeeper$Net;") (List.mem_of_getElem? (i := 3) rfl)) (fun _ h9 => h9) rfl dX3_takeBack_36 ?_
      refine lv_aload_n hx hb dX3_takeBack_39 rfl (lv_at hl 0 rfl) ?_
      refine va_get (D := D) (ci := 3) (v := .int n1) (C := RX3) (T := TX3) (N := 4) hx hb hts in_X3_takeBack_X3 hown hK.1 hP 0 rfl rfl 3 (by decide) (hts (.fieldLink RX3 26 "OrderKeeper$Past" "next" "I") (List.mem_of_getElem? (i := 2) rfl)) (fun _ h9 => h9) rfl dX3_takeBack_40 ?_
      refine va_aldq hx hb hK.1 hP 1 3 rfl rfl hin dX3_takeBack_43 ?_
      rw [ejn] at h1 h2 ⊢
      cases hg : g j with
      | none =>
        refine lv_astore_nN (lv' := [(2, .null), (0, .ref o), (1, .ref q1)]) hx hb dX3_takeBack_44 rfl hl (by decide) rfl (fun ls hl => ?_)
        refine lv_aload_nN hx hb dX3_takeBack_45 rfl (lv_at hl 0 rfl) ?_
        refine lv_ifnonnullN hx hb dX3_takeBack_46 ?_
        refine lv_iconst (v := 0) hx hb dX3_takeBack_49 (by decide) ?_
        exact gb_retz C (r1, n1, w1_weight, w1_after, w1_before, w1_placeOf, w1_taskAt, w1_tasks, w1_ties) hP hD hS (by decide) (h1 (hok.1 j hj hg)) dX3_takeBack_50
      | some q =>
        refine lv_astore_n (lv' := [(2, .ref q), (0, .ref o), (1, .ref q1)]) hx hb dX3_takeBack_44 rfl hl (by decide) rfl (fun ls hl => ?_)
        refine lv_aload_n hx hb dX3_takeBack_45 rfl (lv_at hl 0 rfl) ?_
        refine lv_ifnonnull (tgt := 51) hx hb dX3_takeBack_46 (by decide) ?_
        obtain ⟨y, hy, ey, eK⟩ := hok.2.1 j q hj hg
        obtain ⟨L1, L2, eL⟩ := List.append_of_mem hy
        replace h := h2 y.2 eK
        refine lv_aload_n hx hb dX3_takeBack_51 rfl (lv_at hl 2 rfl) ?_
        refine lv_aload_n hx hb dX3_takeBack_52 rfl (lv_at hl 0 rfl) ?_
        rw [← ey]
        rw [eL] at hP hD
        replace hP := gb_PP hP (pn_out _ _ _ _)
        replace hD := gb_Dp hD (pn_out _ _ _ _)
        replace hP : va_P D vwCl ([(o, .inr (3, [.ref o_held, .int r1, .ref o_kept, .int n1])), (o_kept, .inl (cO, 64, .inr (.inr (.inr (.inr g))))), (q1, .inr (2, [.ref q1_weight, .ref q1_after, .ref q1_before, .ref q1_placeOf, .ref q1_taskAt, .int w1_tasks, .int w1_ties])), (q1_weight, .inl (cI, 60, .inl w1_weight)), (q1_after, .inl (cJ, 60, .inr (.inl w1_after))), (q1_before, .inl (cJ, 60, .inr (.inl w1_before))), (q1_placeOf, .inl (cI, 60, .inl w1_placeOf)), (q1_taskAt, .inl (cI, 60, .inl w1_taskAt)), (y.1.1, .inr (2, [.ref y.1.2.1, .ref y.1.2.2.1, .ref y.1.2.2.2.1, .ref y.1.2.2.2.2.1, .ref y.1.2.2.2.2.2, .int y.2.2.2.2.2.2.1, .int y.2.2.2.2.2.2.2])), (y.1.2.1, .inl (cI, 60, .inl y.2.1)), (y.1.2.2.1, .inl (cJ, 60, .inr (.inl y.2.2.1))), (y.1.2.2.2.1, .inl (cJ, 60, .inr (.inl y.2.2.2.1))), (y.1.2.2.2.2.1, .inl (cI, 60, .inl y.2.2.2.2.1)), (y.1.2.2.2.2.2, .inl (cI, 60, .inl y.2.2.2.2.2.1))] ++ pn_P cI cJ (L1 ++ L2)) H := hP
        replace hD : va_D A ([(o, .inr (3, [.ref o_held, .int r1, .ref o_kept, .int n1])), (o_kept, .inl (cO, 64, .inr (.inr (.inr (.inr g))))), (q1, .inr (2, [.ref q1_weight, .ref q1_after, .ref q1_before, .ref q1_placeOf, .ref q1_taskAt, .int w1_tasks, .int w1_ties])), (q1_weight, .inl (cI, 60, .inl w1_weight)), (q1_after, .inl (cJ, 60, .inr (.inl w1_after))), (q1_before, .inl (cJ, 60, .inr (.inl w1_before))), (q1_placeOf, .inl (cI, 60, .inl w1_placeOf)), (q1_taskAt, .inl (cI, 60, .inl w1_taskAt)), (y.1.1, .inr (2, [.ref y.1.2.1, .ref y.1.2.2.1, .ref y.1.2.2.2.1, .ref y.1.2.2.2.2.1, .ref y.1.2.2.2.2.2, .int y.2.2.2.2.2.2.1, .int y.2.2.2.2.2.2.2])), (y.1.2.1, .inl (cI, 60, .inl y.2.1)), (y.1.2.2.1, .inl (cJ, 60, .inr (.inl y.2.2.1))), (y.1.2.2.2.1, .inl (cJ, 60, .inr (.inl y.2.2.2.1))), (y.1.2.2.2.2.1, .inl (cI, 60, .inl y.2.2.2.2.1)), (y.1.2.2.2.2.2, .inl (cI, 60, .inl y.2.2.2.2.2.1))] ++ pn_P cI cJ (L1 ++ L2)) := hD
        have hw2 : wp_X2_copyFrom w1_tasks w1_ties w1_weight w1_after w1_before w1_placeOf w1_taskAt y.2.2.2.2.2.2.1 y.2.2.2.2.2.2.2 y.2.1 y.2.2.1 y.2.2.2.1 y.2.2.2.2.1 y.2.2.2.2.2.1 (fun m_tasks m_ties m_weight m_after m_before m_placeOf m_taskAt => post 1 r1 n1 m_weight m_after m_before m_placeOf m_taskAt m_tasks m_ties) := by
          unfold wp_X2_copyFrom
          intro _ e1 _ e2 _ e3 _ e4 _ e5
          rw [e1, e2, e3, e4, e5]
          exact h
        refine gb_kvQ (wc := [(q1, .inr (2, [.ref q1_weight, .ref q1_after, .ref q1_before, .ref q1_placeOf, .ref q1_taskAt, .int w1_tasks, .int w1_ties])), (q1_weight, .inl (cI, 60, .inl w1_weight)), (q1_after, .inl (cJ, 60, .inr (.inl w1_after))), (q1_before, .inl (cJ, 60, .inr (.inl w1_before))), (q1_placeOf, .inl (cI, 60, .inl w1_placeOf)), (q1_taskAt, .inl (cI, 60, .inl w1_taskAt)), (y.1.1, .inr (2, [.ref y.1.2.1, .ref y.1.2.2.1, .ref y.1.2.2.2.1, .ref y.1.2.2.2.2.1, .ref y.1.2.2.2.2.2, .int y.2.2.2.2.2.2.1, .int y.2.2.2.2.2.2.2])), (y.1.2.1, .inl (cI, 60, .inl y.2.1)), (y.1.2.2.1, .inl (cJ, 60, .inr (.inl y.2.2.1))), (y.1.2.2.2.1, .inl (cJ, 60, .inr (.inl y.2.2.2.1))), (y.1.2.2.2.2.1, .inl (cI, 60, .inl y.2.2.2.2.1)), (y.1.2.2.2.2.2, .inl (cI, 60, .inl y.2.2.2.2.2.1))]) (wr := [(o, .inr (3, [.ref o_held, .int r1, .ref o_kept, .int n1])), (o_kept, .inl (cO, 64, .inr (.inr (.inr (.inr g)))))]) C hP hD hS [2, 3, 4, 5, 6, 7, 8, 9, 10, 11, 12, 13] [0, 1] rfl rfl (by decide) (gb_rV (As := [.ref y.1.1]) (rest := []) C ((c_X2_copyFrom l D cI cJ cZ cO q1 q1_weight q1_after q1_before q1_placeOf q1_taskAt y.1.1 y.1.2.1 y.1.2.2.1 y.1.2.2.2.1 y.1.2.2.2.2.1 y.1.2.2.2.2.2 w1_tasks w1_ties w1_weight w1_after w1_before w1_placeOf w1_taskAt y.2.2.2.2.2.2.1 y.2.2.2.2.2.2.2 y.2.1 y.2.2.1 y.2.2.2.1 y.2.2.2.2.1 y.2.2.2.2.2.1 _ hw2) _) rfl (cw_X3_takeBack_22 hts ⟨Nat.le_of_ble_eq_true rfl, Nat.le_of_ble_eq_true rfl⟩) (ci := 2) (q0 := 0) rfl rfl rfl rfl hl.1 rfl (Nat.le_of_ble_eq_true rfl) dX3_takeBack_53 ⟨Nat.zero_le _, Nat.zero_le _⟩) ?_
        rintro ⟨m_tasks, m_ties, m_weight, m_after, m_before, m_placeOf, m_taskAt⟩ H locs h hP hD hS
        try dsimp only at h
        replace hP : va_P D vwCl (([(o, .inr (3, [.ref o_held, .int r1, .ref o_kept, .int n1])), (o_kept, .inl (cO, 64, .inr (.inr (.inr (.inr g))))), (q1, .inr (2, [.ref q1_weight, .ref q1_after, .ref q1_before, .ref q1_placeOf, .ref q1_taskAt, .int m_tasks, .int m_ties])), (q1_weight, .inl (cI, 60, .inl m_weight)), (q1_after, .inl (cJ, 60, .inr (.inl m_after))), (q1_before, .inl (cJ, 60, .inr (.inl m_before))), (q1_placeOf, .inl (cI, 60, .inl m_placeOf)), (q1_taskAt, .inl (cI, 60, .inl m_taskAt))] ++ pn_W cI cJ y) ++ pn_P cI cJ (L1 ++ L2)) H := hP.part [0, 1, 2, 3, 4, 5, 6, 7, 8, 9, 10, 11, 12, 13] rfl
        replace hD : va_D A (([(o, .inr (3, [.ref o_held, .int r1, .ref o_kept, .int n1])), (o_kept, .inl (cO, 64, .inr (.inr (.inr (.inr g))))), (q1, .inr (2, [.ref q1_weight, .ref q1_after, .ref q1_before, .ref q1_placeOf, .ref q1_taskAt, .int m_tasks, .int m_ties])), (q1_weight, .inl (cI, 60, .inl m_weight)), (q1_after, .inl (cJ, 60, .inr (.inl m_after))), (q1_before, .inl (cJ, 60, .inr (.inl m_before))), (q1_placeOf, .inl (cI, 60, .inl m_placeOf)), (q1_taskAt, .inl (cI, 60, .inl m_taskAt))] ++ pn_W cI cJ y) ++ pn_P cI cJ (L1 ++ L2)) := hD.part [0, 1, 2, 3, 4, 5, 6, 7, 8, 9, 10, 11, 12, 13] (by decide) rfl
        replace hP := gb_PP hP (pn_out _ _ _ _).symm
        replace hD := gb_Dp hD (pn_out _ _ _ _).symm
        rw [← eL] at hP hD
        refine lv_iconst (v := 1) hx hb dX3_takeBack_56 (by decide) ?_
        exact gb_retz C (r1, n1, m_weight, m_after, m_before, m_placeOf, m_taskAt, m_tasks, m_ties) hP hD hS (by decide) h dX3_takeBack_57
    · replace h := h.1 c1
      refine lv_iconst (v := 0) hx hb dX3_takeBack_7 (by decide) ?_
      exact gb_retz C (v_remembered, v_next, w1_weight, w1_after, w1_before, w1_placeOf, w1_taskAt, w1_tasks, w1_ties) hP hD hS (by decide) h dX3_takeBack_8
