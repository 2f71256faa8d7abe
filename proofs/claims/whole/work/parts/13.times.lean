/-! OrderKeeper$Times.measureEarly(LOrderKeeper$Net;)V -/
theorem in_X6_measureEarly_X2 : ∀ w ∈ wsX20, w ∈ wsX6_measureEarly := fun _ h => List.mem_cons_of_mem _ (List.mem_append_right _ h)
theorem in_X6_measureEarly_X6 : ∀ w ∈ wsX60, w ∈ wsX6_measureEarly := fun _ h => List.mem_cons_of_mem _ (List.mem_append_left _ (List.mem_append_right _ h))
theorem hdS_X6_measureEarly : yX6_measureEarly.cls ≠ "java/lang/invoke/MethodHandle" ∧ yX6_measureEarly.cls ≠ "java/lang/invoke/VarHandle" ∧ (parseMethodDescriptor yX6_measureEarly.desc).map (fun d => d.parameters.length) = some 1 := by decide +kernel
theorem hdV_X6_measureEarly : yX6_measureEarly.cls = RX6 ∧ yX6_measureEarly.cls ≠ "java/lang/invoke/MethodHandle" ∧ yX6_measureEarly.cls ≠ "java/lang/invoke/VarHandle" ∧ (parseMethodDescriptor yX6_measureEarly.desc).map (fun d => d.parameters.length) = some 1 := ⟨rfl, hdS_X6_measureEarly⟩
theorem cw_X6_measureEarly_37 {R : Room} {s : State} {args : Array Value} (hts : ∀ w ∈ wsX6_measureEarly, w.before args s = true) (hR : 1 + 1 ≤ R.frames ∧ 8 + (3 + 11) + 22 ≤ R.locals) : CallW R s args RX6 RX2 37 yX2_hasTie cX2_hasTie 3 (some .boolean) wsX2_hasTie ({ frames := 1, cells := 0, slots := 0, locals := 22 }) 0 0 2 := cwV 2 hts gX6_measureEarly_X2_hasTie rfl rfl rfl hdV_X2_hasTie hR
def lp_X6_measureEarly_32 (w1_tasks : Int32) (w1_weight : Nat → Int32) (w1_after : Nat → Int64) (x2 : Int32) (x3 : Int32) : Nat → (Nat → Int32) → (Int32) → ((Nat → Int32) → Prop) → Prop
  | 0, _, _, _ => False
  | n32 + 1, v_early, x4, kx => ((w1_tasks ≤ x4 → kx v_early) ∧ (¬ (w1_tasks ≤ x4) → wp_X2_hasTie w1_after x4 x3 (fun (r_7 : Int32) => ((r_7 = 0 → ∀ x4_9 : Int32, x4_9 = x4 + 1 → lp_X6_measureEarly_32 w1_tasks w1_weight w1_after x2 x3 n32 v_early x4_9 kx) ∧ (¬ (r_7 = 0) → vp_in x3 60 ∧ vp_in x4 60 ∧ vp_in x4 60 ∧ vp_in x3 60 ∧ ∀ v_early_14 : Nat → Int32, v_early_14 = upd v_early x3.toNatClampNeg (gb_max (v_early x3.toNatClampNeg) ((v_early x4.toNatClampNeg) + (w1_weight x4.toNatClampNeg))) → ∀ x4_15 : Int32, x4_15 = x4 + 1 → lp_X6_measureEarly_32 w1_tasks w1_weight w1_after x2 x3 n32 v_early_14 x4_15 kx)))))
set_option maxHeartbeats 4000000 in
set_option maxRecDepth 100000 in
theorem ml_X6_measureEarly_32 {D : va_G} {cI cJ cZ cO : ClassId} {p : Program} {l : Launch} {e : Env} {s : State} {m : MethodId} {below : List Frame} {meth : Method} {c : Code} {A : Nat → Prop} (o : Nat) (o_early : Nat) (o_tail : Nat) (q1 : Nat) (q1_weight : Nat) (q1_after : Nat) (q1_before : Nat) (q1_placeOf : Nat) (q1_taskAt : Nat) (v_all : Int32) (w1_tasks : Int32) (w1_ties : Int32) (w1_weight : Nat → Int32) (w1_after : Nat → Int64) (w1_taskAt : Nat → Int32) (x2 : Int32) (x3 : Int32) (C : gb_At D cI cJ cZ cO p s m meth c ([.ref o, .ref q1] : List Value).toArray A yX6_measureEarly cX6_measureEarly none 5 wsX6_measureEarly) (post : (Int32) → (Nat → Int32) → Prop) (kx : ((Nat → Int32) → Prop)) (hkx : ∀ (v_early : Nat → Int32) (H : Heap) (locs : List Loc), va_P D vwCl [(o, .inr (6, [.ref o_early, .ref o_tail, .int v_all])), (o_early, .inl (cI, 60, .inl v_early)), (q1, .inr (2, [.ref q1_weight, .ref q1_after, .ref q1_before, .ref q1_placeOf, .ref q1_taskAt, .int w1_tasks, .int w1_ties])), (q1_weight, .inl (cI, 60, .inl w1_weight)), (q1_after, .inl (cJ, 60, .inr (.inl w1_after))), (q1_taskAt, .inl (cI, 60, .inl w1_taskAt))] H → va_D A [(o, .inr (6, [.ref o_early, .ref o_tail, .int v_all])), (o_early, .inl (cI, 60, .inl v_early)), (q1, .inr (2, [.ref q1_weight, .ref q1_after, .ref q1_before, .ref q1_placeOf, .ref q1_taskAt, .int w1_tasks, .int w1_ties])), (q1_weight, .inl (cI, 60, .inl w1_weight)), (q1_after, .inl (cJ, 60, .inr (.inl w1_after))), (q1_taskAt, .inl (cI, 60, .inl w1_taskAt))] → va_S A s.heap H locs → ∀ ls : Array Slot, lv_has ls 5 [(0, .ref o), (1, .ref q1), (2, .int x2), (3, .int x3)] → kx v_early → W p l e ({ frames := 2, cells := 0, slots := 0, locals := 64 } : Room) s m ([.ref o, .ref q1] : List Value).toArray below meth c H locs 0 0 (MQ below (va_Qv (fun u : (Int32) × (Nat → Int32) => post u.1 u.2) (gb_B D (fun u : (Int32) × (Nat → Int32) => [(o, .inr (6, [.ref o_early, .ref o_tail, .int u.1])), (o_early, .inl (cI, 60, .inl u.2)), (q1, .inr (2, [.ref q1_weight, .ref q1_after, .ref q1_before, .ref q1_placeOf, .ref q1_taskAt, .int w1_tasks, .int w1_ties])), (q1_weight, .inl (cI, 60, .inl w1_weight)), (q1_after, .inl (cJ, 60, .inr (.inl w1_after))), (q1_taskAt, .inl (cI, 60, .inl w1_taskAt))]) A) A) ([.ref o, .ref q1] : List Value).toArray s 0 0 A) (F0 m 87 ls [])) :
    ∀ (n32 : Nat) (v_early : Nat → Int32) (x4 : Int32) (H : Heap) (locs : List Loc), va_P D vwCl [(o, .inr (6, [.ref o_early, .ref o_tail, .int v_all])), (o_early, .inl (cI, 60, .inl v_early)), (q1, .inr (2, [.ref q1_weight, .ref q1_after, .ref q1_before, .ref q1_placeOf, .ref q1_taskAt, .int w1_tasks, .int w1_ties])), (q1_weight, .inl (cI, 60, .inl w1_weight)), (q1_after, .inl (cJ, 60, .inr (.inl w1_after))), (q1_taskAt, .inl (cI, 60, .inl w1_taskAt))] H → va_D A [(o, .inr (6, [.ref o_early, .ref o_tail, .int v_all])), (o_early, .inl (cI, 60, .inl v_early)), (q1, .inr (2, [.ref q1_weight, .ref q1_after, .ref q1_before, .ref q1_placeOf, .ref q1_taskAt, .int w1_tasks, .int w1_ties])), (q1_weight, .inl (cI, 60, .inl w1_weight)), (q1_after, .inl (cJ, 60, .inr (.inl w1_after))), (q1_taskAt, .inl (cI, 60, .inl w1_taskAt))] → va_S A s.heap H locs → ∀ ls : Array Slot, lv_has ls 5 [(0, .ref o), (1, .ref q1), (2, .int x2), (3, .int x3), (4, .int x4)] → lp_X6_measureEarly_32 w1_tasks w1_weight w1_after x2 x3 n32 v_early x4 kx → W p l e ({ frames := 2, cells := 0, slots := 0, locals := 64 } : Room) s m ([.ref o, .ref q1] : List Value).toArray below meth c H locs 0 0 (MQ below (va_Qv (fun u : (Int32) × (Nat → Int32) => post u.1 u.2) (gb_B D (fun u : (Int32) × (Nat → Int32) => [(o, .inr (6, [.ref o_early, .ref o_tail, .int u.1])), (o_early, .inl (cI, 60, .inl u.2)), (q1, .inr (2, [.ref q1_weight, .ref q1_after, .ref q1_before, .ref q1_placeOf, .ref q1_taskAt, .int w1_tasks, .int w1_ties])), (q1_weight, .inl (cI, 60, .inl w1_weight)), (q1_after, .inl (cJ, 60, .inr (.inl w1_after))), (q1_taskAt, .inl (cI, 60, .inl w1_taskAt))]) A) A) ([.ref o, .ref q1] : List Value).toArray s 0 0 A) (F0 m 32 ls []) := by
  obtain ⟨hx, hb, hr, hml, hown, hts, hlocks, hnm, hK, hA⟩ := id C
  replace hown : s.vm.findClass RX6 = some m.cls := hown
  intro n32
  induction n32 with
  | zero => intro v_early x4 H locs hP hD hS ls hl h; exact False.elim h
  | succ n32 ih =>
    intro v_early x4 H locs hP hD hS ls hl h
    rw [lp_X6_measureEarly_32] at h
    refine lv_iload hx hb dX6_measureEarly_32 (lv_at hl 4 rfl) ?_
    refine lv_aload_n hx hb dX6_measureEarly_34 rfl (lv_at hl 1 rfl) ?_
    refine va_get (D := D) (ci := 2) (v := .int w1_tasks) (C := RX2) (T := TX2) (N := 7) hx hb hts in_X6_measureEarly_X2 hown hK.1 hP 2 rfl rfl 5 (by decide) (hts (.fieldLink RX6 29 "OrderKeeper$Net" "tasks" "I") (List.mem_of_getElem? (i := 2) rfl)) (fun _ h9 => h9) rfl dX6_measureEarly_35 ?_
    refine lv_icmp_ge (tgt := 87) hx hb dX6_measureEarly_38 (by decide) (fun c6 => ?_) (fun c6 => ?_)
    · replace h := h.1 c6
      exact hkx v_early _ _ (hP.sub [0, 1, 2, 3, 4, 5] rfl) (hD.sub [0, 1, 2, 3, 4, 5] (by decide) rfl) hS ls (lv_sub hl [0, 1, 2, 3] rfl) h
    · replace h := h.2 c6
      refine lv_aload_n hx hb dX6_measureEarly_41 rfl (lv_at hl 1 rfl) ?_
      refine lv_iload hx hb dX6_measureEarly_42 (lv_at hl 4 rfl) ?_
      refine lv_iload_n hx hb dX6_measureEarly_44 rfl (lv_at hl 3 rfl) ?_
      refine gb_ki (wc := [(q1, .inr (2, [.ref q1_weight, .ref q1_after, .ref q1_before, .ref q1_placeOf, .ref q1_taskAt, .int w1_tasks, .int w1_ties])), (q1_after, .inl (cJ, 60, .inr (.inl w1_after)))]) (wr := [(o, .inr (6, [.ref o_early, .ref o_tail, .int v_all])), (o_early, .inl (cI, 60, .inl v_early)), (q1_weight, .inl (cI, 60, .inl w1_weight)), (q1_taskAt, .inl (cI, 60, .inl w1_taskAt))]) C hP hD hS [2, 4] [0, 1, 3, 5] rfl rfl (by decide) (gb_rV (As := [.int x4, .int x3]) (rest := []) C ((c_X2_hasTie l D cI cJ cZ cO q1 q1_weight q1_after q1_before q1_placeOf q1_taskAt w1_tasks w1_ties w1_after x4 x3 _ h) _) rfl (cw_X6_measureEarly_37 hts ⟨Nat.le_of_ble_eq_true rfl, Nat.le_of_ble_eq_true rfl⟩) (ci := 2) (q0 := 0) rfl rfl rfl rfl hl.1 rfl (Nat.le_of_ble_eq_true rfl) dX6_measureEarly_45 ⟨Nat.zero_le _, Nat.zero_le _⟩) ?_
      rintro r_7 _ H locs h hP hD hS
      try dsimp only at h
      replace hP : va_P D vwCl [(o, .inr (6, [.ref o_early, .ref o_tail, .int v_all])), (o_early, .inl (cI, 60, .inl v_early)), (q1_weight, .inl (cI, 60, .inl w1_weight)), (q1_taskAt, .inl (cI, 60, .inl w1_taskAt)), (q1, .inr (2, [.ref q1_weight, .ref q1_after, .ref q1_before, .ref q1_placeOf, .ref q1_taskAt, .int w1_tasks, .int w1_ties])), (q1_after, .inl (cJ, 60, .inr (.inl w1_after)))] H := hP
      replace hD : va_D A [(o, .inr (6, [.ref o_early, .ref o_tail, .int v_all])), (o_early, .inl (cI, 60, .inl v_early)), (q1_weight, .inl (cI, 60, .inl w1_weight)), (q1_taskAt, .inl (cI, 60, .inl w1_taskAt)), (q1, .inr (2, [.ref q1_weight, .ref q1_after, .ref q1_before, .ref q1_placeOf, .ref q1_taskAt, .int w1_tasks, .int w1_ties])), (q1_after, .inl (cJ, 60, .inr (.inl w1_after)))] := hD
      refine lv_if_eq (tgt := 81) hx hb dX6_measureEarly_48 (by decide) (fun c8 => ?_) (fun c8 => ?_)
      · replace h := h.1 c8
        obtain ⟨x4_9, ex4_9⟩ : ∃ z : Int32, z = x4 + 1 := ⟨_, rfl⟩
        refine lv_iinc (v := x4_9) (lv' := [(4, .int x4_9), (0, .ref o), (1, .ref q1), (2, .int x2), (3, .int x3)]) hx hb dX6_measureEarly_81 hl (k := 4) rfl (by rw [ex4_9]; rfl) (by decide) rfl (fun ls hl => ?_)
        replace h := h x4_9 ex4_9
        refine lv_goto (tgt := 32) hx hb dX6_measureEarly_84 (by decide) ?_
        exact ih v_early x4_9 _ _ (hP.sub [0, 1, 4, 2, 5, 3] rfl) (hD.sub [0, 1, 4, 2, 5, 3] (by decide) rfl) hS ls (lv_sub hl [1, 2, 3, 4, 0] rfl) h
      · replace h := h.2 c8
        refine lv_aload_n hx hb dX6_measureEarly_51 rfl (lv_at hl 0 rfl) ?_
        refine va_get (D := D) (ci := 6) (v := .ref o_early) (C := RX6) (T := TX6) (N := 3) hx hb hts in_X6_measureEarly_X6 hown hK.1 hP 0 rfl rfl 0 (by decide) (hts (.fieldLink RX6 9 "OrderKeeper$Times" "early" "[I") (List.mem_of_getElem? (i := 4) rfl)) (fun _ h9 => h9) rfl dX6_measureEarly_52 ?_
        refine lv_iload_n hx hb dX6_measureEarly_55 rfl (lv_at hl 3 rfl) ?_
        refine lv_aload_n hx hb dX6_measureEarly_56 rfl (lv_at hl 0 rfl) ?_
        refine va_get (D := D) (ci := 6) (v := .ref o_early) (C := RX6) (T := TX6) (N := 3) hx hb hts in_X6_measureEarly_X6 hown hK.1 hP 0 rfl rfl 0 (by decide) (hts (.fieldLink RX6 9 "OrderKeeper$Times" "early" "[I") (List.mem_of_getElem? (i := 4) rfl)) (fun _ h9 => h9) rfl dX6_measureEarly_57 ?_
        refine lv_iload_n hx hb dX6_measureEarly_60 rfl (lv_at hl 3 rfl) ?_
        obtain ⟨hi10, h⟩ := h
        refine va_iald hx hb hK.1 hP 1 0 rfl rfl hi10 dX6_measureEarly_61 ?_
        refine lv_aload_n hx hb dX6_measureEarly_62 rfl (lv_at hl 0 rfl) ?_
        refine va_get (D := D) (ci := 6) (v := .ref o_early) (C := RX6) (T := TX6) (N := 3) hx hb hts in_X6_measureEarly_X6 hown hK.1 hP 0 rfl rfl 0 (by decide) (hts (.fieldLink RX6 9 "OrderKeeper$Times" "early" "[I") (List.mem_of_getElem? (i := 4) rfl)) (fun _ h9 => h9) rfl dX6_measureEarly_63 ?_
        refine lv_iload hx hb dX6_measureEarly_66 (lv_at hl 4 rfl) ?_
        obtain ⟨hi11, h⟩ := h
        refine va_iald hx hb hK.1 hP 1 0 rfl rfl hi11 dX6_measureEarly_68 ?_
        refine lv_aload_n hx hb dX6_measureEarly_69 rfl (lv_at hl 1 rfl) ?_
        refine va_get (D := D) (ci := 2) (v := .ref q1_weight) (C := RX2) (T := TX2) (N := 7) hx hb hts in_X6_measureEarly_X2 hown hK.1 hP 4 rfl rfl 0 (by decide) (hts (.fieldLink RX6 41 "OrderKeeper$Net" "weight" "[I") (List.mem_of_getElem? (i := 5) rfl)) (fun _ h9 => h9) rfl dX6_measureEarly_70 ?_
        refine lv_iload hx hb dX6_measureEarly_73 (lv_at hl 4 rfl) ?_
        obtain ⟨hi12, h⟩ := h
        refine va_iald hx hb hK.1 hP 2 0 rfl rfl hi12 dX6_measureEarly_75 ?_
        refine lv_iadd hx hb dX6_measureEarly_76 ?_
        refine va_mmax hx hb (hml.trans hl.1.symm) hown (hts (.methodLink RX6 44 Lib.Math.max.name) (List.mem_of_getElem? (i := 6) rfl)) (hts (.static Lib.Math.max.name) (List.mem_of_getElem? (i := 7) rfl)) (hts (.initialized "java/lang/Math") (List.mem_of_getElem? (i := 8) rfl)) (hts (.code Lib.Math.max.name Lib.Math.max.code 2 (some .int)) (List.mem_of_getElem? (i := 9) rfl)) (Nat.le_of_ble_eq_true rfl) (Nat.le_of_ble_eq_true rfl) (Nat.zero_le _) (Nat.zero_le _) dX6_measureEarly_77 ?_
        obtain ⟨hi13, h⟩ := h
        obtain ⟨v_early_14, ev_early_14⟩ : ∃ z : Nat → Int32, z = upd v_early x3.toNatClampNeg (gb_max (v_early x3.toNatClampNeg) ((v_early x4.toNatClampNeg) + (w1_weight x4.toNatClampNeg))) := ⟨_, rfl⟩
        refine va_iast hx hb hK.1 hP hD hS 1 0 rfl rfl hi13 dX6_measureEarly_80 (fun H locs hP hD hS => ?_)
        replace hP : va_P D vwCl [(o, .inr (6, [.ref o_early, .ref o_tail, .int v_all])), (o_early, .inl (cI, 60, .inl v_early_14)), (q1_weight, .inl (cI, 60, .inl w1_weight)), (q1_taskAt, .inl (cI, 60, .inl w1_taskAt)), (q1, .inr (2, [.ref q1_weight, .ref q1_after, .ref q1_before, .ref q1_placeOf, .ref q1_taskAt, .int w1_tasks, .int w1_ties])), (q1_after, .inl (cJ, 60, .inr (.inl w1_after)))] H := by rw [ev_early_14]; exact hP
        replace hD : va_D A [(o, .inr (6, [.ref o_early, .ref o_tail, .int v_all])), (o_early, .inl (cI, 60, .inl v_early_14)), (q1_weight, .inl (cI, 60, .inl w1_weight)), (q1_taskAt, .inl (cI, 60, .inl w1_taskAt)), (q1, .inr (2, [.ref q1_weight, .ref q1_after, .ref q1_before, .ref q1_placeOf, .ref q1_taskAt, .int w1_tasks, .int w1_ties])), (q1_after, .inl (cJ, 60, .inr (.inl w1_after)))] := by rw [ev_early_14]; exact hD
        replace h := h v_early_14 ev_early_14
        obtain ⟨x4_15, ex4_15⟩ : ∃ z : Int32, z = x4 + 1 := ⟨_, rfl⟩
        refine lv_iinc (v := x4_15) (lv' := [(4, .int x4_15), (0, .ref o), (1, .ref q1), (2, .int x2), (3, .int x3)]) hx hb dX6_measureEarly_81 hl (k := 4) rfl (by rw [ex4_15]; rfl) (by decide) rfl (fun ls hl => ?_)
        replace h := h x4_15 ex4_15
        refine lv_goto (tgt := 32) hx hb dX6_measureEarly_84 (by decide) ?_
        exact ih v_early_14 x4_15 _ _ (hP.sub [0, 1, 4, 2, 5, 3] rfl) (hD.sub [0, 1, 4, 2, 5, 3] (by decide) rfl) hS ls (lv_sub hl [1, 2, 3, 4, 0] rfl) h
def lp_X6_measureEarly_7 (w1_tasks : Int32) (w1_weight : Nat → Int32) (w1_after : Nat → Int64) (w1_taskAt : Nat → Int32) : Nat → (Int32) → (Nat → Int32) → (Int32) → ((Int32) → (Nat → Int32) → Prop) → Prop
  | 0, _, _, _, _ => False
  | n7 + 1, v_all, v_early, x2, kx => ((w1_tasks ≤ x2 → kx v_all v_early) ∧ (¬ (w1_tasks ≤ x2) → vp_in x2 60 ∧ ∀ x3_3 : Int32, x3_3 = w1_taskAt x2.toNatClampNeg → vp_in x3_3 60 ∧ ∀ v_early_5 : Nat → Int32, v_early_5 = upd v_early x3_3.toNatClampNeg 0 → (∃ n32 : Nat, lp_X6_measureEarly_32 w1_tasks w1_weight w1_after x2 x3_3 n32 v_early_5 0 (fun (v_early_16 : Nat → Int32) => vp_in x3_3 60 ∧ vp_in x3_3 60 ∧ ∀ v_all_19 : Int32, v_all_19 = gb_max v_all ((v_early_16 x3_3.toNatClampNeg) + (w1_weight x3_3.toNatClampNeg)) → ∀ x2_20 : Int32, x2_20 = x2 + 1 → lp_X6_measureEarly_7 w1_tasks w1_weight w1_after w1_taskAt n7 v_all_19 v_early_16 x2_20 kx))))
set_option maxHeartbeats 4000000 in
set_option maxRecDepth 100000 in
theorem ml_X6_measureEarly_7 {D : va_G} {cI cJ cZ cO : ClassId} {p : Program} {l : Launch} {e : Env} {s : State} {m : MethodId} {below : List Frame} {meth : Method} {c : Code} {A : Nat → Prop} (o : Nat) (o_early : Nat) (o_tail : Nat) (q1 : Nat) (q1_weight : Nat) (q1_after : Nat) (q1_before : Nat) (q1_placeOf : Nat) (q1_taskAt : Nat) (w1_tasks : Int32) (w1_ties : Int32) (w1_weight : Nat → Int32) (w1_after : Nat → Int64) (w1_taskAt : Nat → Int32) (C : gb_At D cI cJ cZ cO p s m meth c ([.ref o, .ref q1] : List Value).toArray A yX6_measureEarly cX6_measureEarly none 5 wsX6_measureEarly) (post : (Int32) → (Nat → Int32) → Prop) (kx : ((Int32) → (Nat → Int32) → Prop)) (hkx : ∀ (v_all : Int32) (v_early : Nat → Int32) (H : Heap) (locs : List Loc), va_P D vwCl [(o, .inr (6, [.ref o_early, .ref o_tail, .int v_all])), (o_early, .inl (cI, 60, .inl v_early)), (q1, .inr (2, [.ref q1_weight, .ref q1_after, .ref q1_before, .ref q1_placeOf, .ref q1_taskAt, .int w1_tasks, .int w1_ties])), (q1_weight, .inl (cI, 60, .inl w1_weight)), (q1_after, .inl (cJ, 60, .inr (.inl w1_after))), (q1_taskAt, .inl (cI, 60, .inl w1_taskAt))] H → va_D A [(o, .inr (6, [.ref o_early, .ref o_tail, .int v_all])), (o_early, .inl (cI, 60, .inl v_early)), (q1, .inr (2, [.ref q1_weight, .ref q1_after, .ref q1_before, .ref q1_placeOf, .ref q1_taskAt, .int w1_tasks, .int w1_ties])), (q1_weight, .inl (cI, 60, .inl w1_weight)), (q1_after, .inl (cJ, 60, .inr (.inl w1_after))), (q1_taskAt, .inl (cI, 60, .inl w1_taskAt))] → va_S A s.heap H locs → ∀ ls : Array Slot, lv_has ls 5 [] → kx v_all v_early → W p l e ({ frames := 2, cells := 0, slots := 0, locals := 64 } : Room) s m ([.ref o, .ref q1] : List Value).toArray below meth c H locs 0 0 (MQ below (va_Qv (fun u : (Int32) × (Nat → Int32) => post u.1 u.2) (gb_B D (fun u : (Int32) × (Nat → Int32) => [(o, .inr (6, [.ref o_early, .ref o_tail, .int u.1])), (o_early, .inl (cI, 60, .inl u.2)), (q1, .inr (2, [.ref q1_weight, .ref q1_after, .ref q1_before, .ref q1_placeOf, .ref q1_taskAt, .int w1_tasks, .int w1_ties])), (q1_weight, .inl (cI, 60, .inl w1_weight)), (q1_after, .inl (cJ, 60, .inr (.inl w1_after))), (q1_taskAt, .inl (cI, 60, .inl w1_taskAt))]) A) A) ([.ref o, .ref q1] : List Value).toArray s 0 0 A) (F0 m 117 ls [])) :
    ∀ (n7 : Nat) (v_all : Int32) (v_early : Nat → Int32) (x2 : Int32) (H : Heap) (locs : List Loc), va_P D vwCl [(o, .inr (6, [.ref o_early, .ref o_tail, .int v_all])), (o_early, .inl (cI, 60, .inl v_early)), (q1, .inr (2, [.ref q1_weight, .ref q1_after, .ref q1_before, .ref q1_placeOf, .ref q1_taskAt, .int w1_tasks, .int w1_ties])), (q1_weight, .inl (cI, 60, .inl w1_weight)), (q1_after, .inl (cJ, 60, .inr (.inl w1_after))), (q1_taskAt, .inl (cI, 60, .inl w1_taskAt))] H → va_D A [(o, .inr (6, [.ref o_early, .ref o_tail, .int v_all])), (o_early, .inl (cI, 60, .inl v_early)), (q1, .inr (2, [.ref q1_weight, .ref q1_after, .ref q1_before, .ref q1_placeOf, .ref q1_taskAt, .int w1_tasks, .int w1_ties])), (q1_weight, .inl (cI, 60, .inl w1_weight)), (q1_after, .inl (cJ, 60, .inr (.inl w1_after))), (q1_taskAt, .inl (cI, 60, .inl w1_taskAt))] → va_S A s.heap H locs → ∀ ls : Array Slot, lv_has ls 5 [(0, .ref o), (1, .ref q1), (2, .int x2)] → lp_X6_measureEarly_7 w1_tasks w1_weight w1_after w1_taskAt n7 v_all v_early x2 kx → W p l e ({ frames := 2, cells := 0, slots := 0, locals := 64 } : Room) s m ([.ref o, .ref q1] : List Value).toArray below meth c H locs 0 0 (MQ below (va_Qv (fun u : (Int32) × (Nat → Int32) => post u.1 u.2) (gb_B D (fun u : (Int32) × (Nat → Int32) => [(o, .inr (6, [.ref o_early, .ref o_tail, .int u.1])), (o_early, .inl (cI, 60, .inl u.2)), (q1, .inr (2, [.ref q1_weight, .ref q1_after, .ref q1_before, .ref q1_placeOf, .ref q1_taskAt, .int w1_tasks, .int w1_ties])), (q1_weight, .inl (cI, 60, .inl w1_weight)), (q1_after, .inl (cJ, 60, .inr (.inl w1_after))), (q1_taskAt, .inl (cI, 60, .inl w1_taskAt))]) A) A) ([.ref o, .ref q1] : List Value).toArray s 0 0 A) (F0 m 7 ls []) := by
  obtain ⟨hx, hb, hr, hml, hown, hts, hlocks, hnm, hK, hA⟩ := id C
  replace hown : s.vm.findClass RX6 = some m.cls := hown
  intro n7
  induction n7 with
  | zero => intro v_all v_early x2 H locs hP hD hS ls hl h; exact False.elim h
  | succ n7 ih =>
    intro v_all v_early x2 H locs hP hD hS ls hl h
    rw [lp_X6_measureEarly_7] at h
    refine lv_iload_n hx hb dX6_measureEarly_7 rfl (lv_at hl 2 rfl) ?_
    refine lv_aload_n hx hb dX6_measureEarly_8 rfl (lv_at hl 1 rfl) ?_
    refine va_get (D := D) (ci := 2) (v := .int w1_tasks) (C := RX2) (T := TX2) (N := 7) hx hb hts in_X6_measureEarly_X2 hown hK.1 hP 2 rfl rfl 5 (by decide) (hts (.fieldLink RX6 29 "OrderKeeper$Net" "tasks" "I") (List.mem_of_getElem? (i := 2) rfl)) (fun _ h9 => h9) rfl dX6_measureEarly_9 ?_
    refine lv_icmp_ge (tgt := 117) hx hb dX6_measureEarly_12 (by decide) (fun c1 => ?_) (fun c1 => ?_)
    · replace h := h.1 c1
      exact hkx v_all v_early _ _ (hP.sub [0, 1, 2, 3, 4, 5] rfl) (hD.sub [0, 1, 2, 3, 4, 5] (by decide) rfl) hS ls (lv_sub hl [] rfl) h
    · replace h := h.2 c1
      refine lv_aload_n hx hb dX6_measureEarly_15 rfl (lv_at hl 1 rfl) ?_
      refine va_get (D := D) (ci := 2) (v := .ref q1_taskAt) (C := RX2) (T := TX2) (N := 7) hx hb hts in_X6_measureEarly_X2 hown hK.1 hP 2 rfl rfl 4 (by decide) (hts (.fieldLink RX6 34 "OrderKeeper$Net" "taskAt" "[I") (List.mem_of_getElem? (i := 3) rfl)) (fun _ h9 => h9) rfl dX6_measureEarly_16 ?_
      refine lv_iload_n hx hb dX6_measureEarly_19 rfl (lv_at hl 2 rfl) ?_
      obtain ⟨hi2, h⟩ := h
      refine va_iald hx hb hK.1 hP 5 0 rfl rfl hi2 dX6_measureEarly_20 ?_
      refine lv_topi (fun x3_3 ex3_3 => ?_)
      replace h := h x3_3 ex3_3
      refine lv_istore_n (lv' := [(3, .int x3_3), (0, .ref o), (1, .ref q1), (2, .int x2)]) hx hb dX6_measureEarly_21 rfl hl (by decide) rfl (fun ls hl => ?_)
      refine lv_aload_n hx hb dX6_measureEarly_22 rfl (lv_at hl 1 rfl) ?_
      refine va_get (D := D) (ci := 6) (v := .ref o_early) (C := RX6) (T := TX6) (N := 3) hx hb hts in_X6_measureEarly_X6 hown hK.1 hP 0 rfl rfl 0 (by decide) (hts (.fieldLink RX6 9 "OrderKeeper$Times" "early" "[I") (List.mem_of_getElem? (i := 4) rfl)) (fun _ h9 => h9) rfl dX6_measureEarly_23 ?_
      refine lv_iload_n hx hb dX6_measureEarly_26 rfl (lv_at hl 0 rfl) ?_
      refine lv_iconst (v := 0) hx hb dX6_measureEarly_27 (by decide) ?_
      obtain ⟨hi4, h⟩ := h
      obtain ⟨v_early_5, ev_early_5⟩ : ∃ z : Nat → Int32, z = upd v_early x3_3.toNatClampNeg 0 := ⟨_, rfl⟩
      refine va_iast hx hb hK.1 hP hD hS 1 0 rfl rfl hi4 dX6_measureEarly_28 (fun H locs hP hD hS => ?_)
      replace hP : va_P D vwCl [(o, .inr (6, [.ref o_early, .ref o_tail, .int v_all])), (o_early, .inl (cI, 60, .inl v_early_5)), (q1, .inr (2, [.ref q1_weight, .ref q1_after, .ref q1_before, .ref q1_placeOf, .ref q1_taskAt, .int w1_tasks, .int w1_ties])), (q1_weight, .inl (cI, 60, .inl w1_weight)), (q1_after, .inl (cJ, 60, .inr (.inl w1_after))), (q1_taskAt, .inl (cI, 60, .inl w1_taskAt))] H := by rw [ev_early_5]; exact hP
      replace hD : va_D A [(o, .inr (6, [.ref o_early, .ref o_tail, .int v_all])), (o_early, .inl (cI, 60, .inl v_early_5)), (q1, .inr (2, [.ref q1_weight, .ref q1_after, .ref q1_before, .ref q1_placeOf, .ref q1_taskAt, .int w1_tasks, .int w1_ties])), (q1_weight, .inl (cI, 60, .inl w1_weight)), (q1_after, .inl (cJ, 60, .inr (.inl w1_after))), (q1_taskAt, .inl (cI, 60, .inl w1_taskAt))] := by rw [ev_early_5]; exact hD
      replace h := h v_early_5 ev_early_5
      refine lv_iconst (v := 0) hx hb dX6_measureEarly_29 (by decide) ?_
      refine lv_istore (lv' := [(4, .int 0), (3, .int x3_3), (0, .ref o), (1, .ref q1), (2, .int x2)]) hx hb dX6_measureEarly_30 hl (by decide) rfl (fun ls hl => ?_)
      obtain ⟨n32, h⟩ := h
      refine ml_X6_measureEarly_32 o o_early o_tail q1 q1_weight q1_after q1_before q1_placeOf q1_taskAt v_all w1_tasks w1_ties w1_weight w1_after w1_taskAt x2 x3_3 C post _ ?_ n32 v_early_5 0 _ _ (hP.sub [0, 1, 2, 3, 4, 5] rfl) (hD.sub [0, 1, 2, 3, 4, 5] (by decide) rfl) hS ls (lv_sub hl [2, 3, 4, 1, 0] rfl) h
      intro v_early_16 H locs hP hD hS ls hl h
      refine lv_aload_n hx hb dX6_measureEarly_87 rfl (lv_at hl 0 rfl) ?_
      refine lv_aload_n hx hb dX6_measureEarly_88 rfl (lv_at hl 0 rfl) ?_
      refine va_get (D := D) (ci := 6) (v := .int v_all) (C := RX6) (T := TX6) (N := 3) hx hb hts in_X6_measureEarly_X6 hown hK.1 hP 0 rfl rfl 2 (by decide) (hts (.fieldLink RX6 25 "OrderKeeper$Times" "all" "I") (List.mem_of_getElem? (i := 1) rfl)) (fun _ h9 => h9) rfl dX6_measureEarly_89 ?_
      refine lv_aload_n hx hb dX6_measureEarly_92 rfl (lv_at hl 0 rfl) ?_
      refine va_get (D := D) (ci := 6) (v := .ref o_early) (C := RX6) (T := TX6) (N := 3) hx hb hts in_X6_measureEarly_X6 hown hK.1 hP 0 rfl rfl 0 (by decide) (hts (.fieldLink RX6 9 "OrderKeeper$Times" "early" "[I") (List.mem_of_getElem? (i := 4) rfl)) (fun _ h9 => h9) rfl dX6_measureEarly_93 ?_
      refine lv_iload_n hx hb dX6_measureEarly_96 rfl (lv_at hl 3 rfl) ?_
      obtain ⟨hi17, h⟩ := h
      refine va_iald hx hb hK.1 hP 1 0 rfl rfl hi17 dX6_measureEarly_97 ?_
      refine lv_aload_n hx hb dX6_measureEarly_98 rfl (lv_at hl 1 rfl) ?_
      refine va_get (D := D) (ci := 2) (v := .ref q1_weight) (C := RX2) (T := TX2) (N := 7) hx hb hts in_X6_measureEarly_X2 hown hK.1 hP 2 rfl rfl 0 (by decide) (hts (.fieldLink RX6 41 "OrderKeeper$Net" "weight" "[I") (List.mem_of_getElem? (i := 5) rfl)) (fun _ h9 => h9) rfl dX6_measureEarly_99 ?_
      refine lv_iload_n hx hb dX6_measureEarly_102 rfl (lv_at hl 3 rfl) ?_
      obtain ⟨hi18, h⟩ := h
      refine va_iald hx hb hK.1 hP 3 0 rfl rfl hi18 dX6_measureEarly_103 ?_
      refine lv_iadd hx hb dX6_measureEarly_104 ?_
      refine va_mmax hx hb (hml.trans hl.1.symm) hown (hts (.methodLink RX6 44 Lib.Math.max.name) (List.mem_of_getElem? (i := 6) rfl)) (hts (.static Lib.Math.max.name) (List.mem_of_getElem? (i := 7) rfl)) (hts (.initialized "java/lang/Math") (List.mem_of_getElem? (i := 8) rfl)) (hts (.code Lib.Math.max.name Lib.Math.max.code 2 (some .int)) (List.mem_of_getElem? (i := 9) rfl)) (Nat.le_of_ble_eq_true rfl) (Nat.le_of_ble_eq_true rfl) (Nat.zero_le _) (Nat.zero_le _) dX6_measureEarly_105 ?_
      refine lv_topi (fun v_all_19 ev_all_19 => ?_)
      replace h := h v_all_19 ev_all_19
      refine va_put (D := D) (ci := 6) (v := .int v_all_19) (ty := .int) (C := RX6) (T := TX6) (N := 3) hx hb hts in_X6_measureEarly_X6 tyX6 tyX6_ok nmX6 hown hK.1 hP hD hS 0 rfl rfl 2 (by decide) (hts (.fieldLink RX6 25 "OrderKeeper$Times" "all" "I") (List.mem_of_getElem? (i := 1) rfl)) (fun _ h9 => h9) rfl (tyX6_ok 2 (by decide)) rfl rfl (Nat.le_of_ble_eq_true rfl) dX6_measureEarly_108 (fun H locs hP hD hS => ?_)
      replace hP : va_P D vwCl [(o, .inr (6, [.ref o_early, .ref o_tail, .int v_all_19])), (o_early, .inl (cI, 60, .inl v_early_16)), (q1, .inr (2, [.ref q1_weight, .ref q1_after, .ref q1_before, .ref q1_placeOf, .ref q1_taskAt, .int w1_tasks, .int w1_ties])), (q1_weight, .inl (cI, 60, .inl w1_weight)), (q1_after, .inl (cJ, 60, .inr (.inl w1_after))), (q1_taskAt, .inl (cI, 60, .inl w1_taskAt))] H := hP
      replace hD : va_D A [(o, .inr (6, [.ref o_early, .ref o_tail, .int v_all_19])), (o_early, .inl (cI, 60, .inl v_early_16)), (q1, .inr (2, [.ref q1_weight, .ref q1_after, .ref q1_before, .ref q1_placeOf, .ref q1_taskAt, .int w1_tasks, .int w1_ties])), (q1_weight, .inl (cI, 60, .inl w1_weight)), (q1_after, .inl (cJ, 60, .inr (.inl w1_after))), (q1_taskAt, .inl (cI, 60, .inl w1_taskAt))] := hD
      obtain ⟨x2_20, ex2_20⟩ : ∃ z : Int32, z = x2 + 1 := ⟨_, rfl⟩
      refine lv_iinc (v := x2_20) (lv' := [(2, .int x2_20), (0, .ref o), (1, .ref q1), (3, .int x3_3)]) hx hb dX6_measureEarly_111 hl (k := 2) rfl (by rw [ex2_20]; rfl) (by decide) rfl (fun ls hl => ?_)
      replace h := h x2_20 ex2_20
      refine lv_goto (tgt := 7) hx hb dX6_measureEarly_114 (by decide) ?_
      exact ih v_all_19 v_early_16 x2_20 _ _ (hP.sub [0, 1, 2, 3, 4, 5] rfl) (hD.sub [0, 1, 2, 3, 4, 5] (by decide) rfl) hS ls (lv_sub hl [1, 2, 0] rfl) h
def wp_X6_measureEarly (v_all : Int32) (v_early : Nat → Int32) (w1_tasks : Int32) (w1_weight : Nat → Int32) (w1_after : Nat → Int64) (w1_taskAt : Nat → Int32) (post : (Int32) → (Nat → Int32) → Prop) : Prop := (∃ n7 : Nat, lp_X6_measureEarly_7 w1_tasks w1_weight w1_after w1_taskAt n7 0 v_early 0 (fun (v_all_21 : Int32) (v_early_22 : Nat → Int32) => post v_all_21 v_early_22))
set_option maxHeartbeats 4000000 in
set_option maxRecDepth 100000 in
theorem c_X6_measureEarly (l : Launch) (D : va_G) (cI cJ cZ cO : ClassId) (o : Nat) (o_early : Nat) (o_tail : Nat) (q1 : Nat) (q1_weight : Nat) (q1_after : Nat) (q1_before : Nat) (q1_placeOf : Nat) (q1_taskAt : Nat) (v_all : Int32) (v_early : Nat → Int32) (w1_tasks : Int32) (w1_ties : Int32) (w1_weight : Nat → Int32) (w1_after : Nat → Int64) (w1_taskAt : Nat → Int32) (post : (Int32) → (Nat → Int32) → Prop) (hw : wp_X6_measureEarly v_all v_early w1_tasks w1_weight w1_after w1_taskAt post) : gb_Cv D cI cJ cZ cO l yX6_measureEarly wsX6_measureEarly ({ frames := 2, cells := 0, slots := 0, locals := 64 }) [.ref o, .ref q1] [(o, .inr (6, [.ref o_early, .ref o_tail, .int v_all])), (o_early, .inl (cI, 60, .inl v_early)), (q1, .inr (2, [.ref q1_weight, .ref q1_after, .ref q1_before, .ref q1_placeOf, .ref q1_taskAt, .int w1_tasks, .int w1_ties])), (q1_weight, .inl (cI, 60, .inl w1_weight)), (q1_after, .inl (cJ, 60, .inr (.inl w1_after))), (q1_taskAt, .inl (cI, 60, .inl w1_taskAt))] (fun u : (Int32) × (Nat → Int32) => post u.1 u.2) (fun u : (Int32) × (Nat → Int32) => [(o, .inr (6, [.ref o_early, .ref o_tail, .int u.1])), (o_early, .inl (cI, 60, .inl u.2)), (q1, .inr (2, [.ref q1_weight, .ref q1_after, .ref q1_before, .ref q1_placeOf, .ref q1_taskAt, .int w1_tasks, .int w1_ties])), (q1_weight, .inl (cI, 60, .inl w1_weight)), (q1_after, .inl (cJ, 60, .inr (.inl w1_after))), (q1_taskAt, .inl (cI, 60, .inl w1_taskAt))]) 0 0 := by
  refine gb_mv (cc := cX6_measureEarly) (maxL := 5) (ret := none) (by decide) rfl (Nat.le_of_ble_eq_true rfl) ?_
  · intro p e s m below meth c A C hP hD hS ls hl
    obtain ⟨hx, hb, hr, hml, hown, hts, hlocks, hnm, hK, hA⟩ := id C
    replace hown : s.vm.findClass RX6 = some m.cls := hown
    have h := hw
    unfold wp_X6_measureEarly at h
    replace hl : lv_has ls 5 [(0, .ref o), (1, .ref q1)] := hl
    refine lv_aload_n hx hb dX6_measureEarly_0 rfl (lv_at hl 0 rfl) ?_
    refine lv_iconst (v := 0) hx hb dX6_measureEarly_1 (by decide) ?_
    refine va_put (D := D) (ci := 6) (v := .int 0) (ty := .int) (C := RX6) (T := TX6) (N := 3) hx hb hts in_X6_measureEarly_X6 tyX6 tyX6_ok nmX6 hown hK.1 hP hD hS 0 rfl rfl 2 (by decide) (hts (.fieldLink RX6 25 "OrderKeeper$Times" "all" "I") (List.mem_of_getElem? (i := 1) rfl)) (fun _ h9 => h9) rfl (tyX6_ok 2 (by decide)) rfl rfl (Nat.le_of_ble_eq_true rfl) dX6_measureEarly_2 (fun H locs hP hD hS => ?_)
    replace hP : va_P D vwCl [(o, .inr (6, [.ref o_early, .ref o_tail, .int 0])), (o_early, .inl (cI, 60, .inl v_early)), (q1, .inr (2, [.ref q1_weight, .ref q1_after, .ref q1_before, .ref q1_placeOf, .ref q1_taskAt, .int w1_tasks, .int w1_ties])), (q1_weight, .inl (cI, 60, .inl w1_weight)), (q1_after, .inl (cJ, 60, .inr (.inl w1_after))), (q1_taskAt, .inl (cI, 60, .inl w1_taskAt))] H := hP
    replace hD : va_D A [(o, .inr (6, [.ref o_early, .ref o_tail, .int 0])), (o_early, .inl (cI, 60, .inl v_early)), (q1, .inr (2, [.ref q1_weight, .ref q1_after, .ref q1_before, .ref q1_placeOf, .ref q1_taskAt, .int w1_tasks, .int w1_ties])), (q1_weight, .inl (cI, 60, .inl w1_weight)), (q1_after, .inl (cJ, 60, .inr (.inl w1_after))), (q1_taskAt, .inl (cI, 60, .inl w1_taskAt))] := hD
    refine lv_iconst (v := 0) hx hb dX6_measureEarly_5 (by decide) ?_
    refine lv_istore_n (lv' := [(2, .int 0), (0, .ref o), (1, .ref q1)]) hx hb dX6_measureEarly_6 rfl hl (by decide) rfl (fun ls hl => ?_)
    obtain ⟨n7, h⟩ := h
    refine ml_X6_measureEarly_7 o o_early o_tail q1 q1_weight q1_after q1_before q1_placeOf q1_taskAt w1_tasks w1_ties w1_weight w1_after w1_taskAt C post _ ?_ n7 0 v_early 0 _ _ (hP.sub [0, 1, 2, 3, 4, 5] rfl) (hD.sub [0, 1, 2, 3, 4, 5] (by decide) rfl) hS ls (lv_sub hl [1, 2, 0] rfl) h
    intro v_all_21 v_early_22 H locs hP hD hS ls hl h
    exact gb_retv C (v_all_21, v_early_22) (hP.sub [0, 1, 2, 3, 4, 5] rfl) (hD.sub [0, 1, 2, 3, 4, 5] (by decide) rfl) hS h dX6_measureEarly_117
/-! OrderKeeper$Times.measureTail(LOrderKeeper$Net;)V -/
theorem in_X6_measureTail_X2 : ∀ w ∈ wsX20, w ∈ wsX6_measureTail := fun _ h => List.mem_cons_of_mem _ (List.mem_append_left _ (List.mem_append_right _ h))
theorem in_X6_measureTail_X6 : ∀ w ∈ wsX60, w ∈ wsX6_measureTail := fun _ h => List.mem_cons_of_mem _ (List.mem_append_right _ h)
theorem hdS_X6_measureTail : yX6_measureTail.cls ≠ "java/lang/invoke/MethodHandle" ∧ yX6_measureTail.cls ≠ "java/lang/invoke/VarHandle" ∧ (parseMethodDescriptor yX6_measureTail.desc).map (fun d => d.parameters.length) = some 1 := by decide +kernel
theorem hdV_X6_measureTail : yX6_measureTail.cls = RX6 ∧ yX6_measureTail.cls ≠ "java/lang/invoke/MethodHandle" ∧ yX6_measureTail.cls ≠ "java/lang/invoke/VarHandle" ∧ (parseMethodDescriptor yX6_measureTail.desc).map (fun d => d.parameters.length) = some 1 := ⟨rfl, hdS_X6_measureTail⟩
theorem cw_X6_measureTail_37 {R : Room} {s : State} {args : Array Value} (hts : ∀ w ∈ wsX6_measureTail, w.before args s = true) (hR : 1 + 1 ≤ R.frames ∧ 8 + (3 + 11) + 22 ≤ R.locals) : CallW R s args RX6 RX2 37 yX2_hasTie cX2_hasTie 3 (some .boolean) wsX2_hasTie ({ frames := 1, cells := 0, slots := 0, locals := 22 }) 0 0 2 := cwV 2 hts gX6_measureTail_X2_hasTie rfl rfl rfl hdV_X2_hasTie hR
def lp_X6_measureTail_24 (v_tail : Nat → Int32) (w1_tasks : Int32) (w1_after : Nat → Int64) (x2 : Int32) (x3 : Int32) : Nat → (Int32) → (Int32) → ((Int32) → Prop) → Prop
  | 0, _, _, _ => False
  | n24 + 1, x4, x5, kx => ((w1_tasks ≤ x5 → kx x4) ∧ (¬ (w1_tasks ≤ x5) → wp_X2_hasTie w1_after x3 x5 (fun (r_6 : Int32) => ((r_6 = 0 → ∀ x5_8 : Int32, x5_8 = x5 + 1 → lp_X6_measureTail_24 v_tail w1_tasks w1_after x2 x3 n24 x4 x5_8 kx) ∧ (¬ (r_6 = 0) → vp_in x5 60 ∧ ∀ x4_10 : Int32, x4_10 = gb_max x4 (v_tail x5.toNatClampNeg) → ∀ x5_11 : Int32, x5_11 = x5 + 1 → lp_X6_measureTail_24 v_tail w1_tasks w1_after x2 x3 n24 x4_10 x5_11 kx)))))
set_option maxHeartbeats 4000000 in
set_option maxRecDepth 100000 in
theorem ml_X6_measureTail_24 {D : va_G} {cI cJ cZ cO : ClassId} {p : Program} {l : Launch} {e : Env} {s : State} {m : MethodId} {below : List Frame} {meth : Method} {c : Code} {A : Nat → Prop} (o : Nat) (o_early : Nat) (o_tail : Nat) (q1 : Nat) (q1_weight : Nat) (q1_after : Nat) (q1_before : Nat) (q1_placeOf : Nat) (q1_taskAt : Nat) (v_all : Int32) (v_tail : Nat → Int32) (w1_tasks : Int32) (w1_ties : Int32) (w1_weight : Nat → Int32) (w1_after : Nat → Int64) (w1_taskAt : Nat → Int32) (x2 : Int32) (x3 : Int32) (C : gb_At D cI cJ cZ cO p s m meth c ([.ref o, .ref q1] : List Value).toArray A yX6_measureTail cX6_measureTail none 6 wsX6_measureTail) (post : (Nat → Int32) → Prop) (kx : ((Int32) → Prop)) (hkx : ∀ (x4 : Int32) (H : Heap) (locs : List Loc), va_P D vwCl [(o, .inr (6, [.ref o_early, .ref o_tail, .int v_all])), (o_tail, .inl (cI, 60, .inl v_tail)), (q1, .inr (2, [.ref q1_weight, .ref q1_after, .ref q1_before, .ref q1_placeOf, .ref q1_taskAt, .int w1_tasks, .int w1_ties])), (q1_weight, .inl (cI, 60, .inl w1_weight)), (q1_after, .inl (cJ, 60, .inr (.inl w1_after))), (q1_taskAt, .inl (cI, 60, .inl w1_taskAt))] H → va_D A [(o, .inr (6, [.ref o_early, .ref o_tail, .int v_all])), (o_tail, .inl (cI, 60, .inl v_tail)), (q1, .inr (2, [.ref q1_weight, .ref q1_after, .ref q1_before, .ref q1_placeOf, .ref q1_taskAt, .int w1_tasks, .int w1_ties])), (q1_weight, .inl (cI, 60, .inl w1_weight)), (q1_after, .inl (cJ, 60, .inr (.inl w1_after))), (q1_taskAt, .inl (cI, 60, .inl w1_taskAt))] → va_S A s.heap H locs → ∀ ls : Array Slot, lv_has ls 6 [(0, .ref o), (1, .ref q1), (2, .int x2), (3, .int x3), (4, .int x4)] → kx x4 → W p l e ({ frames := 2, cells := 0, slots := 0, locals := 64 } : Room) s m ([.ref o, .ref q1] : List Value).toArray below meth c H locs 0 0 (MQ below (va_Qv (fun u : (Nat → Int32) => post u) (gb_B D (fun u : (Nat → Int32) => [(o, .inr (6, [.ref o_early, .ref o_tail, .int v_all])), (o_tail, .inl (cI, 60, .inl u)), (q1, .inr (2, [.ref q1_weight, .ref q1_after, .ref q1_before, .ref q1_placeOf, .ref q1_taskAt, .int w1_tasks, .int w1_ties])), (q1_weight, .inl (cI, 60, .inl w1_weight)), (q1_after, .inl (cJ, 60, .inr (.inl w1_after))), (q1_taskAt, .inl (cI, 60, .inl w1_taskAt))]) A) A) ([.ref o, .ref q1] : List Value).toArray s 0 0 A) (F0 m 63 ls [])) :
    ∀ (n24 : Nat) (x4 : Int32) (x5 : Int32) (H : Heap) (locs : List Loc), va_P D vwCl [(o, .inr (6, [.ref o_early, .ref o_tail, .int v_all])), (o_tail, .inl (cI, 60, .inl v_tail)), (q1, .inr (2, [.ref q1_weight, .ref q1_after, .ref q1_before, .ref q1_placeOf, .ref q1_taskAt, .int w1_tasks, .int w1_ties])), (q1_weight, .inl (cI, 60, .inl w1_weight)), (q1_after, .inl (cJ, 60, .inr (.inl w1_after))), (q1_taskAt, .inl (cI, 60, .inl w1_taskAt))] H → va_D A [(o, .inr (6, [.ref o_early, .ref o_tail, .int v_all])), (o_tail, .inl (cI, 60, .inl v_tail)), (q1, .inr (2, [.ref q1_weight, .ref q1_after, .ref q1_before, .ref q1_placeOf, .ref q1_taskAt, .int w1_tasks, .int w1_ties])), (q1_weight, .inl (cI, 60, .inl w1_weight)), (q1_after, .inl (cJ, 60, .inr (.inl w1_after))), (q1_taskAt, .inl (cI, 60, .inl w1_taskAt))] → va_S A s.heap H locs → ∀ ls : Array Slot, lv_has ls 6 [(0, .ref o), (1, .ref q1), (2, .int x2), (3, .int x3), (4, .int x4), (5, .int x5)] → lp_X6_measureTail_24 v_tail w1_tasks w1_after x2 x3 n24 x4 x5 kx → W p l e ({ frames := 2, cells := 0, slots := 0, locals := 64 } : Room) s m ([.ref o, .ref q1] : List Value).toArray below meth c H locs 0 0 (MQ below (va_Qv (fun u : (Nat → Int32) => post u) (gb_B D (fun u : (Nat → Int32) => [(o, .inr (6, [.ref o_early, .ref o_tail, .int v_all])), (o_tail, .inl (cI, 60, .inl u)), (q1, .inr (2, [.ref q1_weight, .ref q1_after, .ref q1_before, .ref q1_placeOf, .ref q1_taskAt, .int w1_tasks, .int w1_ties])), (q1_weight, .inl (cI, 60, .inl w1_weight)), (q1_after, .inl (cJ, 60, .inr (.inl w1_after))), (q1_taskAt, .inl (cI, 60, .inl w1_taskAt))]) A) A) ([.ref o, .ref q1] : List Value).toArray s 0 0 A) (F0 m 24 ls []) := by
  obtain ⟨hx, hb, hr, hml, hown, hts, hlocks, hnm, hK, hA⟩ := id C
  replace hown : s.vm.findClass RX6 = some m.cls := hown
  intro n24
  induction n24 with
  | zero => intro x4 x5 H locs hP hD hS ls hl h; exact False.elim h
  | succ n24 ih =>
    intro x4 x5 H locs hP hD hS ls hl h
    rw [lp_X6_measureTail_24] at h
    refine lv_iload hx hb dX6_measureTail_24 (lv_at hl 5 rfl) ?_
    refine lv_aload_n hx hb dX6_measureTail_26 rfl (lv_at hl 1 rfl) ?_
    refine va_get (D := D) (ci := 2) (v := .int w1_tasks) (C := RX2) (T := TX2) (N := 7) hx hb hts in_X6_measureTail_X2 hown hK.1 hP 2 rfl rfl 5 (by decide) (hts (.fieldLink RX6 29 "OrderKeeper$Net" "tasks" "I") (List.mem_of_getElem? (i := 1) rfl)) (fun _ h9 => h9) rfl dX6_measureTail_27 ?_
    refine lv_icmp_ge (tgt := 63) hx hb dX6_measureTail_30 (by decide) (fun c5 => ?_) (fun c5 => ?_)
    · replace h := h.1 c5
      exact hkx x4 _ _ (hP.sub [0, 1, 2, 3, 4, 5] rfl) (hD.sub [0, 1, 2, 3, 4, 5] (by decide) rfl) hS ls (lv_sub hl [0, 1, 2, 3, 4] rfl) h
    · replace h := h.2 c5
      refine lv_aload_n hx hb dX6_measureTail_33 rfl (lv_at hl 1 rfl) ?_
      refine lv_iload_n hx hb dX6_measureTail_34 rfl (lv_at hl 3 rfl) ?_
      refine lv_iload hx hb dX6_measureTail_35 (lv_at hl 5 rfl) ?_
      refine gb_ki (wc := [(q1, .inr (2, [.ref q1_weight, .ref q1_after, .ref q1_before, .ref q1_placeOf, .ref q1_taskAt, .int w1_tasks, .int w1_ties])), (q1_after, .inl (cJ, 60, .inr (.inl w1_after)))]) (wr := [(o, .inr (6, [.ref o_early, .ref o_tail, .int v_all])), (o_tail, .inl (cI, 60, .inl v_tail)), (q1_weight, .inl (cI, 60, .inl w1_weight)), (q1_taskAt, .inl (cI, 60, .inl w1_taskAt))]) C hP hD hS [2, 4] [0, 1, 3, 5] rfl rfl (by decide) (gb_rV (As := [.int x3, .int x5]) (rest := []) C ((c_X2_hasTie l D cI cJ cZ cO q1 q1_weight q1_after q1_before q1_placeOf q1_taskAt w1_tasks w1_ties w1_after x3 x5 _ h) _) rfl (cw_X6_measureTail_37 hts ⟨Nat.le_of_ble_eq_true rfl, Nat.le_of_ble_eq_true rfl⟩) (ci := 2) (q0 := 0) rfl rfl rfl rfl hl.1 rfl (Nat.le_of_ble_eq_true rfl) dX6_measureTail_37 ⟨Nat.zero_le _, Nat.zero_le _⟩) ?_
      rintro r_6 _ H locs h hP hD hS
      try dsimp only at h
      replace hP : va_P D vwCl [(o, .inr (6, [.ref o_early, .ref o_tail, .int v_all])), (o_tail, .inl (cI, 60, .inl v_tail)), (q1_weight, .inl (cI, 60, .inl w1_weight)), (q1_taskAt, .inl (cI, 60, .inl w1_taskAt)), (q1, .inr (2, [.ref q1_weight, .ref q1_after, .ref q1_before, .ref q1_placeOf, .ref q1_taskAt, .int w1_tasks, .int w1_ties])), (q1_after, .inl (cJ, 60, .inr (.inl w1_after)))] H := hP
      replace hD : va_D A [(o, .inr (6, [.ref o_early, .ref o_tail, .int v_all])), (o_tail, .inl (cI, 60, .inl v_tail)), (q1_weight, .inl (cI, 60, .inl w1_weight)), (q1_taskAt, .inl (cI, 60, .inl w1_taskAt)), (q1, .inr (2, [.ref q1_weight, .ref q1_after, .ref q1_before, .ref q1_placeOf, .ref q1_taskAt, .int w1_tasks, .int w1_ties])), (q1_after, .inl (cJ, 60, .inr (.inl w1_after)))] := hD
      refine lv_if_eq (tgt := 57) hx hb dX6_measureTail_40 (by decide) (fun c7 => ?_) (fun c7 => ?_)
      · replace h := h.1 c7
        obtain ⟨x5_8, ex5_8⟩ : ∃ z : Int32, z = x5 + 1 := ⟨_, rfl⟩
        refine lv_iinc (v := x5_8) (lv' := [(5, .int x5_8), (0, .ref o), (1, .ref q1), (2, .int x2), (3, .int x3), (4, .int x4)]) hx hb dX6_measureTail_57 hl (k := 5) rfl (by rw [ex5_8]; rfl) (by decide) rfl (fun ls hl => ?_)
        replace h := h x5_8 ex5_8
        refine lv_goto (tgt := 24) hx hb dX6_measureTail_60 (by decide) ?_
        exact ih x4 x5_8 _ _ (hP.sub [0, 1, 4, 2, 5, 3] rfl) (hD.sub [0, 1, 4, 2, 5, 3] (by decide) rfl) hS ls (lv_sub hl [1, 2, 3, 4, 5, 0] rfl) h
      · replace h := h.2 c7
        refine lv_iload hx hb dX6_measureTail_43 (lv_at hl 4 rfl) ?_
        refine lv_aload_n hx hb dX6_measureTail_45 rfl (lv_at hl 0 rfl) ?_
        refine va_get (D := D) (ci := 6) (v := .ref o_tail) (C := RX6) (T := TX6) (N := 3) hx hb hts in_X6_measureTail_X6 hown hK.1 hP 0 rfl rfl 1 (by decide) (hts (.fieldLink RX6 15 "OrderKeeper$Times" "tail" "[I") (List.mem_of_getElem? (i := 3) rfl)) (fun _ h9 => h9) rfl dX6_measureTail_46 ?_
        refine lv_iload hx hb dX6_measureTail_49 (lv_at hl 5 rfl) ?_
        obtain ⟨hi9, h⟩ := h
        refine va_iald hx hb hK.1 hP 1 0 rfl rfl hi9 dX6_measureTail_51 ?_
        refine va_mmax hx hb (hml.trans hl.1.symm) hown (hts (.methodLink RX6 44 Lib.Math.max.name) (List.mem_of_getElem? (i := 4) rfl)) (hts (.static Lib.Math.max.name) (List.mem_of_getElem? (i := 5) rfl)) (hts (.initialized "java/lang/Math") (List.mem_of_getElem? (i := 6) rfl)) (hts (.code Lib.Math.max.name Lib.Math.max.code 2 (some .int)) (List.mem_of_getElem? (i := 7) rfl)) (Nat.le_of_ble_eq_true rfl) (Nat.le_of_ble_eq_true rfl) (Nat.zero_le _) (Nat.zero_le _) dX6_measureTail_52 ?_
        refine lv_topi (fun x4_10 ex4_10 => ?_)
        replace h := h x4_10 ex4_10
        refine lv_istore (lv' := [(4, .int x4_10), (0, .ref o), (1, .ref q1), (2, .int x2), (3, .int x3), (5, .int x5)]) hx hb dX6_measureTail_55 hl (by decide) rfl (fun ls hl => ?_)
        obtain ⟨x5_11, ex5_11⟩ : ∃ z : Int32, z = x5 + 1 := ⟨_, rfl⟩
        refine lv_iinc (v := x5_11) (lv' := [(5, .int x5_11), (4, .int x4_10), (0, .ref o), (1, .ref q1), (2, .int x2), (3, .int x3)]) hx hb dX6_measureTail_57 hl (k := 5) rfl (by rw [ex5_11]; rfl) (by decide) rfl (fun ls hl => ?_)
        replace h := h x5_11 ex5_11
        refine lv_goto (tgt := 24) hx hb dX6_measureTail_60 (by decide) ?_
        exact ih x4_10 x5_11 _ _ (hP.sub [0, 1, 4, 2, 5, 3] rfl) (hD.sub [0, 1, 4, 2, 5, 3] (by decide) rfl) hS ls (lv_sub hl [2, 3, 4, 5, 1, 0] rfl) h
def lp_X6_measureTail_7 (w1_tasks : Int32) (w1_weight : Nat → Int32) (w1_after : Nat → Int64) (w1_taskAt : Nat → Int32) : Nat → (Nat → Int32) → (Int32) → ((Nat → Int32) → Prop) → Prop
  | 0, _, _, _ => False
  | n7 + 1, v_tail, x2, kx => ((x2 < 0 → kx v_tail) ∧ (¬ (x2 < 0) → vp_in x2 60 ∧ ∀ x3_4 : Int32, x3_4 = w1_taskAt x2.toNatClampNeg → (∃ n24 : Nat, lp_X6_measureTail_24 v_tail w1_tasks w1_after x2 x3_4 n24 0 0 (fun (x4_12 : Int32) => vp_in x3_4 60 ∧ vp_in x3_4 60 ∧ ∀ v_tail_15 : Nat → Int32, v_tail_15 = upd v_tail x3_4.toNatClampNeg (x4_12 + (w1_weight x3_4.toNatClampNeg)) → ∀ x2_16 : Int32, x2_16 = x2 + (-1) → lp_X6_measureTail_7 w1_tasks w1_weight w1_after w1_taskAt n7 v_tail_15 x2_16 kx))))
set_option maxHeartbeats 4000000 in
set_option maxRecDepth 100000 in
theorem ml_X6_measureTail_7 {D : va_G} {cI cJ cZ cO : ClassId} {p : Program} {l : Launch} {e : Env} {s : State} {m : MethodId} {below : List Frame} {meth : Method} {c : Code} {A : Nat → Prop} (o : Nat) (o_early : Nat) (o_tail : Nat) (q1 : Nat) (q1_weight : Nat) (q1_after : Nat) (q1_before : Nat) (q1_placeOf : Nat) (q1_taskAt : Nat) (v_all : Int32) (w1_tasks : Int32) (w1_ties : Int32) (w1_weight : Nat → Int32) (w1_after : Nat → Int64) (w1_taskAt : Nat → Int32) (C : gb_At D cI cJ cZ cO p s m meth c ([.ref o, .ref q1] : List Value).toArray A yX6_measureTail cX6_measureTail none 6 wsX6_measureTail) (post : (Nat → Int32) → Prop) (kx : ((Nat → Int32) → Prop)) (hkx : ∀ (v_tail : Nat → Int32) (H : Heap) (locs : List Loc), va_P D vwCl [(o, .inr (6, [.ref o_early, .ref o_tail, .int v_all])), (o_tail, .inl (cI, 60, .inl v_tail)), (q1, .inr (2, [.ref q1_weight, .ref q1_after, .ref q1_before, .ref q1_placeOf, .ref q1_taskAt, .int w1_tasks, .int w1_ties])), (q1_weight, .inl (cI, 60, .inl w1_weight)), (q1_after, .inl (cJ, 60, .inr (.inl w1_after))), (q1_taskAt, .inl (cI, 60, .inl w1_taskAt))] H → va_D A [(o, .inr (6, [.ref o_early, .ref o_tail, .int v_all])), (o_tail, .inl (cI, 60, .inl v_tail)), (q1, .inr (2, [.ref q1_weight, .ref q1_after, .ref q1_before, .ref q1_placeOf, .ref q1_taskAt, .int w1_tasks, .int w1_ties])), (q1_weight, .inl (cI, 60, .inl w1_weight)), (q1_after, .inl (cJ, 60, .inr (.inl w1_after))), (q1_taskAt, .inl (cI, 60, .inl w1_taskAt))] → va_S A s.heap H locs → ∀ ls : Array Slot, lv_has ls 6 [] → kx v_tail → W p l e ({ frames := 2, cells := 0, slots := 0, locals := 64 } : Room) s m ([.ref o, .ref q1] : List Value).toArray below meth c H locs 0 0 (MQ below (va_Qv (fun u : (Nat → Int32) => post u) (gb_B D (fun u : (Nat → Int32) => [(o, .inr (6, [.ref o_early, .ref o_tail, .int v_all])), (o_tail, .inl (cI, 60, .inl u)), (q1, .inr (2, [.ref q1_weight, .ref q1_after, .ref q1_before, .ref q1_placeOf, .ref q1_taskAt, .int w1_tasks, .int w1_ties])), (q1_weight, .inl (cI, 60, .inl w1_weight)), (q1_after, .inl (cJ, 60, .inr (.inl w1_after))), (q1_taskAt, .inl (cI, 60, .inl w1_taskAt))]) A) A) ([.ref o, .ref q1] : List Value).toArray s 0 0 A) (F0 m 84 ls [])) :
    ∀ (n7 : Nat) (v_tail : Nat → Int32) (x2 : Int32) (H : Heap) (locs : List Loc), va_P D vwCl [(o, .inr (6, [.ref o_early, .ref o_tail, .int v_all])), (o_tail, .inl (cI, 60, .inl v_tail)), (q1, .inr (2, [.ref q1_weight, .ref q1_after, .ref q1_before, .ref q1_placeOf, .ref q1_taskAt, .int w1_tasks, .int w1_ties])), (q1_weight, .inl (cI, 60, .inl w1_weight)), (q1_after, .inl (cJ, 60, .inr (.inl w1_after))), (q1_taskAt, .inl (cI, 60, .inl w1_taskAt))] H → va_D A [(o, .inr (6, [.ref o_early, .ref o_tail, .int v_all])), (o_tail, .inl (cI, 60, .inl v_tail)), (q1, .inr (2, [.ref q1_weight, .ref q1_after, .ref q1_before, .ref q1_placeOf, .ref q1_taskAt, .int w1_tasks, .int w1_ties])), (q1_weight, .inl (cI, 60, .inl w1_weight)), (q1_after, .inl (cJ, 60, .inr (.inl w1_after))), (q1_taskAt, .inl (cI, 60, .inl w1_taskAt))] → va_S A s.heap H locs → ∀ ls : Array Slot, lv_has ls 6 [(0, .ref o), (1, .ref q1), (2, .int x2)] → lp_X6_measureTail_7 w1_tasks w1_weight w1_after w1_taskAt n7 v_tail x2 kx → W p l e ({ frames := 2, cells := 0, slots := 0, locals := 64 } : Room) s m ([.ref o, .ref q1] : List Value).toArray below meth c H locs 0 0 (MQ below (va_Qv (fun u : (Nat → Int32) => post u) (gb_B D (fun u : (Nat → Int32) => [(o, .inr (6, [.ref o_early, .ref o_tail, .int v_all])), (o_tail, .inl (cI, 60, .inl u)), (q1, .inr (2, [.ref q1_weight, .ref q1_after, .ref q1_before, .ref q1_placeOf, .ref q1_taskAt, .int w1_tasks, .int w1_ties])), (q1_weight, .inl (cI, 60, .inl w1_weight)), (q1_after, .inl (cJ, 60, .inr (.inl w1_after))), (q1_taskAt, .inl (cI, 60, .inl w1_taskAt))]) A) A) ([.ref o, .ref q1] : List Value).toArray s 0 0 A) (F0 m 7 ls []) := by
  obtain ⟨hx, hb, hr, hml, hown, hts, hlocks, hnm, hK, hA⟩ := id C
  replace hown : s.vm.findClass RX6 = some m.cls := hown
  intro n7
  induction n7 with
  | zero => intro v_tail x2 H locs hP hD hS ls hl h; exact False.elim h
  | succ n7 ih =>
    intro v_tail x2 H locs hP hD hS ls hl h
    rw [lp_X6_measureTail_7] at h
    refine lv_iload_n hx hb dX6_measureTail_7 rfl (lv_at hl 2 rfl) ?_
    refine lv_if_lt (tgt := 84) hx hb dX6_measureTail_8 (by decide) (fun c2 => ?_) (fun c2 => ?_)
    · replace h := h.1 c2
      exact hkx v_tail _ _ (hP.sub [0, 1, 2, 3, 4, 5] rfl) (hD.sub [0, 1, 2, 3, 4, 5] (by decide) rfl) hS ls (lv_sub hl [] rfl) h
    · replace h := h.2 c2
      refine lv_aload_n hx hb dX6_measureTail_11 rfl (lv_at hl 1 rfl) ?_
      refine va_get (D := D) (ci := 2) (v := .ref q1_taskAt) (C := RX2) (T := TX2) (N := 7) hx hb hts in_X6_measureTail_X2 hown hK.1 hP 2 rfl rfl 4 (by decide) (hts (.fieldLink RX6 34 "OrderKeeper$Net" "taskAt" "[I") (List.mem_of_getElem? (i := 2) rfl)) (fun _ h9 => h9) rfl dX6_measureTail_12 ?_
      refine lv_iload_n hx hb dX6_measureTail_15 rfl (lv_at hl 2 rfl) ?_
      obtain ⟨hi3, h⟩ := h
      refine va_iald hx hb hK.1 hP 5 0 rfl rfl hi3 dX6_measureTail_16 ?_
      refine lv_topi (fun x3_4 ex3_4 => ?_)
      replace h := h x3_4 ex3_4
      refine lv_istore_n (lv' := [(3, .int x3_4), (0, .ref o), (1, .ref q1), (2, .int x2)]) hx hb dX6_measureTail_17 rfl hl (by decide) rfl (fun ls hl => ?_)
      refine lv_iconst (v := 0) hx hb dX6_measureTail_18 (by decide) ?_
      refine lv_istore (lv' := [(4, .int 0), (3, .int x3_4), (0, .ref o), (1, .ref q1), (2, .int x2)]) hx hb dX6_measureTail_19 hl (by decide) rfl (fun ls hl => ?_)
      refine lv_iconst (v := 0) hx hb dX6_measureTail_21 (by decide) ?_
      refine lv_istore (lv' := [(5, .int 0), (4, .int 0), (3, .int x3_4), (0, .ref o), (1, .ref q1), (2, .int x2)]) hx hb dX6_measureTail_22 hl (by decide) rfl (fun ls hl => ?_)
      obtain ⟨n24, h⟩ := h
      refine ml_X6_measureTail_24 o o_early o_tail q1 q1_weight q1_after q1_before q1_placeOf q1_taskAt v_all v_tail w1_tasks w1_ties w1_weight w1_after w1_taskAt x2 x3_4 C post _ ?_ n24 0 0 _ _ (hP.sub [0, 1, 2, 3, 4, 5] rfl) (hD.sub [0, 1, 2, 3, 4, 5] (by decide) rfl) hS ls (lv_sub hl [3, 4, 5, 2, 1, 0] rfl) h
      intro x4_12 H locs hP hD hS ls hl h
      refine lv_aload_n hx hb dX6_measureTail_63 rfl (lv_at hl 0 rfl) ?_
      refine va_get (D := D) (ci := 6) (v := .ref o_tail) (C := RX6) (T := TX6) (N := 3) hx hb hts in_X6_measureTail_X6 hown hK.1 hP 0 rfl rfl 1 (by decide) (hts (.fieldLink RX6 15 "OrderKeeper$Times" "tail" "[I") (List.mem_of_getElem? (i := 3) rfl)) (fun _ h9 => h9) rfl dX6_measureTail_64 ?_
      refine lv_iload_n hx hb dX6_measureTail_67 rfl (lv_at hl 3 rfl) ?_
      refine lv_iload hx hb dX6_measureTail_68 (lv_at hl 4 rfl) ?_
      refine lv_aload_n hx hb dX6_measureTail_70 rfl (lv_at hl 1 rfl) ?_
      refine va_get (D := D) (ci := 2) (v := .ref q1_weight) (C := RX2) (T := TX2) (N := 7) hx hb hts in_X6_measureTail_X2 hown hK.1 hP 2 rfl rfl 0 (by decide) (hts (.fieldLink RX6 41 "OrderKeeper$Net" "weight" "[I") (List.mem_of_getElem? (i := 8) rfl)) (fun _ h9 => h9) rfl dX6_measureTail_71 ?_
      refine lv_iload_n hx hb dX6_measureTail_74 rfl (lv_at hl 3 rfl) ?_
      obtain ⟨hi13, h⟩ := h
      refine va_iald hx hb hK.1 hP 3 0 rfl rfl hi13 dX6_measureTail_75 ?_
      refine lv_iadd hx hb dX6_measureTail_76 ?_
      obtain ⟨hi14, h⟩ := h
      obtain ⟨v_tail_15, ev_tail_15⟩ : ∃ z : Nat → Int32, z = upd v_tail x3_4.toNatClampNeg (x4_12 + (w1_weight x3_4.toNatClampNeg)) := ⟨_, rfl⟩
      refine va_iast hx hb hK.1 hP hD hS 1 0 rfl rfl hi14 dX6_measureTail_77 (fun H locs hP hD hS => ?_)
      replace hP : va_P D vwCl [(o, .inr (6, [.ref o_early, .ref o_tail, .int v_all])), (o_tail, .inl (cI, 60, .inl v_tail_15)), (q1, .inr (2, [.ref q1_weight, .ref q1_after, .ref q1_before, .ref q1_placeOf, .ref q1_taskAt, .int w1_tasks, .int w1_ties])), (q1_weight, .inl (cI, 60, .inl w1_weight)), (q1_after, .inl (cJ, 60, .inr (.inl w1_after))), (q1_taskAt, .inl (cI, 60, .inl w1_taskAt))] H := by rw [ev_tail_15]; exact hP
      replace hD : va_D A [(o, .inr (6, [.ref o_early, .ref o_tail, .int v_all])), (o_tail, .inl (cI, 60, .inl v_tail_15)), (q1, .inr (2, [.ref q1_weight, .ref q1_after, .ref q1_before, .ref q1_placeOf, .ref q1_taskAt, .int w1_tasks, .int w1_ties])), (q1_weight, .inl (cI, 60, .inl w1_weight)), (q1_after, .inl (cJ, 60, .inr (.inl w1_after))), (q1_taskAt, .inl (cI, 60, .inl w1_taskAt))] := by rw [ev_tail_15]; exact hD
      replace h := h v_tail_15 ev_tail_15
      obtain ⟨x2_16, ex2_16⟩ : ∃ z : Int32, z = x2 + (-1) := ⟨_, rfl⟩
      refine lv_iinc (v := x2_16) (lv' := [(2, .int x2_16), (0, .ref o), (1, .ref q1), (3, .int x3_4), (4, .int x4_12)]) hx hb dX6_measureTail_78 hl (k := 2) rfl (by rw [ex2_16]; rfl) (by decide) rfl (fun ls hl => ?_)
      replace h := h x2_16 ex2_16
      refine lv_goto (tgt := 7) hx hb dX6_measureTail_81 (by decide) ?_
      exact ih v_tail_15 x2_16 _ _ (hP.sub [0, 1, 2, 3, 4, 5] rfl) (hD.sub [0, 1, 2, 3, 4, 5] (by decide) rfl) hS ls (lv_sub hl [1, 2, 0] rfl) h
def wp_X6_measureTail (v_tail : Nat → Int32) (w1_tasks : Int32) (w1_weight : Nat → Int32) (w1_after : Nat → Int64) (w1_taskAt : Nat → Int32) (post : (Nat → Int32) → Prop) : Prop := ∀ x2_1 : Int32, x2_1 = w1_tasks - 1 → (∃ n7 : Nat, lp_X6_measureTail_7 w1_tasks w1_weight w1_after w1_taskAt n7 v_tail x2_1 (fun (v_tail_17 : Nat → Int32) => post v_tail_17))
set_option maxHeartbeats 4000000 in
set_option maxRecDepth 100000 in
theorem c_X6_measureTail (l : Launch) (D : va_G) (cI cJ cZ cO : ClassId) (o : Nat) (o_early : Nat) (o_tail : Nat) (q1 : Nat) (q1_weight : Nat) (q1_after : Nat) (q1_before : Nat) (q1_placeOf : Nat) (q1_taskAt : Nat) (v_all : Int32) (v_tail : Nat → Int32) (w1_tasks : Int32) (w1_ties : Int32) (w1_weight : Nat → Int32) (w1_after : Nat → Int64) (w1_taskAt : Nat → Int32) (post : (Nat → Int32) → Prop) (hw : wp_X6_measureTail v_tail w1_tasks w1_weight w1_after w1_taskAt post) : gb_Cv D cI cJ cZ cO l yX6_measureTail wsX6_measureTail ({ frames := 2, cells := 0, slots := 0, locals := 64 }) [.ref o, .ref q1] [(o, .inr (6, [.ref o_early, .ref o_tail, .int v_all])), (o_tail, .inl (cI, 60, .inl v_tail)), (q1, .inr (2, [.ref q1_weight, .ref q1_after, .ref q1_before, .ref q1_placeOf, .ref q1_taskAt, .int w1_tasks, .int w1_ties])), (q1_weight, .inl (cI, 60, .inl w1_weight)), (q1_after, .inl (cJ, 60, .inr (.inl w1_after))), (q1_taskAt, .inl (cI, 60, .inl w1_taskAt))] (fun u : (Nat → Int32) => post u) (fun u : (Nat → Int32) => [(o, .inr (6, [.ref o_early, .ref o_tail, .int v_all])), (o_tail, .inl (cI, 60, .inl u)), (q1, .inr (2, [.ref q1_weight, .ref q1_after, .ref q1_before, .ref q1_placeOf, .ref q1_taskAt, .int w1_tasks, .int w1_ties])), (q1_weight, .inl (cI, 60, .inl w1_weight)), (q1_after, .inl (cJ, 60, .inr (.inl w1_after))), (q1_taskAt, .inl (cI, 60, .inl w1_taskAt))]) 0 0 := by
  refine gb_mv (cc := cX6_measureTail) (maxL := 6) (ret := none) (by decide) rfl (Nat.le_of_ble_eq_true rfl) ?_
  · intro p e s m below meth c A C hP hD hS ls hl
    obtain ⟨hx, hb, hr, hml, hown, hts, hlocks, hnm, hK, hA⟩ := id C
    replace hown : s.vm.findClass RX6 = some m.cls := hown
    have h := hw
    unfold wp_X6_measureTail at h
    replace hl : lv_has ls 6 [(0, .ref o), (1, .ref q1)] := hl
    refine lv_aload_n hx hb dX6_measureTail_0 rfl (lv_at hl 1 rfl) ?_
    refine va_get (D := D) (ci := 2) (v := .int w1_tasks) (C := RX2) (T := TX2) (N := 7) hx hb hts in_X6_measureTail_X2 hown hK.1 hP 2 rfl rfl 5 (by decide) (hts (.fieldLink RX6 29 "OrderKeeper$Net" "tasks" "I") (List.mem_of_getElem? (i := 1) rfl)) (fun _ h9 => h9) rfl dX6_measureTail_1 ?_
    refine lv_iconst (v := 1) hx hb dX6_measureTail_4 (by decide) ?_
    refine lv_isub hx hb dX6_measureTail_5 ?_
    refine lv_topi (fun x2_1 ex2_1 => ?_)
    replace h := h x2_1 ex2_1
    refine lv_istore_n (lv' := [(2, .int x2_1), (0, .ref o), (1, .ref q1)]) hx hb dX6_measureTail_6 rfl hl (by decide) rfl (fun ls hl => ?_)
    obtain ⟨n7, h⟩ := h
    refine ml_X6_measureTail_7 o o_early o_tail q1 q1_weight q1_after q1_before q1_placeOf q1_taskAt v_all w1_tasks w1_ties w1_weight w1_after w1_taskAt C post _ ?_ n7 v_tail x2_1 _ _ (hP.sub [0, 1, 2, 3, 4, 5] rfl) (hD.sub [0, 1, 2, 3, 4, 5] (by decide) rfl) hS ls (lv_sub hl [1, 2, 0] rfl) h
    intro v_tail_17 H locs hP hD hS ls hl h
    exact gb_retv C (v_tail_17) (hP.sub [0, 1, 2, 3, 4, 5] rfl) (hD.sub [0, 1, 2, 3, 4, 5] (by decide) rfl) hS h dX6_measureTail_84
/-! OrderKeeper$Times.measure(LOrderKeeper$Net;)V -/
theorem hdS_X6_measure : yX6_measure.cls ≠ "java/lang/invoke/MethodHandle" ∧ yX6_measure.cls ≠ "java/lang/invoke/VarHandle" ∧ (parseMethodDescriptor yX6_measure.desc).map (fun d => d.parameters.length) = some 1 := by decide +kernel
theorem hdV_X6_measure : yX6_measure.cls = RX6 ∧ yX6_measure.cls ≠ "java/lang/invoke/MethodHandle" ∧ yX6_measure.cls ≠ "java/lang/invoke/VarHandle" ∧ (parseMethodDescriptor yX6_measure.desc).map (fun d => d.parameters.length) = some 1 := ⟨rfl, hdS_X6_measure⟩
theorem cw_X6_measure_18 {R : Room} {s : State} {args : Array Value} (hts : ∀ w ∈ wsX6_measure, w.before args s = true) (hR : 2 + 1 ≤ R.frames ∧ 8 + (5 + 11) + 64 ≤ R.locals) : CallW R s args RX6 RX6 18 yX6_measureEarly cX6_measureEarly 5 none wsX6_measureEarly ({ frames := 2, cells := 0, slots := 0, locals := 64 }) 0 0 1 := cwV 1 hts gX6_measure_X6_measureEarly rfl rfl rfl hdV_X6_measureEarly hR
theorem cw_X6_measure_22 {R : Room} {s : State} {args : Array Value} (hts : ∀ w ∈ wsX6_measure, w.before args s = true) (hR : 2 + 1 ≤ R.frames ∧ 8 + (6 + 11) + 64 ≤ R.locals) : CallW R s args RX6 RX6 22 yX6_measureTail cX6_measureTail 6 none wsX6_measureTail ({ frames := 2, cells := 0, slots := 0, locals := 64 }) 0 0 1 := cwV 1 hts gX6_measure_X6_measureTail rfl rfl rfl hdV_X6_measureTail hR
def wp_X6_measure (v_all : Int32) (v_early : Nat → Int32) (v_tail : Nat → Int32) (w1_tasks : Int32) (w1_weight : Nat → Int32) (w1_after : Nat → Int64) (w1_taskAt : Nat → Int32) (post : (Int32) → (Nat → Int32) → (Nat → Int32) → Prop) : Prop := wp_X6_measureEarly v_all v_early w1_tasks w1_weight w1_after w1_taskAt (fun (v_all_1 : Int32) (v_early_2 : Nat → Int32) => wp_X6_measureTail v_tail w1_tasks w1_weight w1_after w1_taskAt (fun (v_tail_3 : Nat → Int32) => post v_all_1 v_early_2 v_tail_3))
set_option maxHeartbeats 4000000 in
set_option maxRecDepth 100000 in
theorem c_X6_measure (l : Launch) (D : va_G) (cI cJ cZ cO : ClassId) (o : Nat) (o_early : Nat) (o_tail : Nat) (q1 : Nat) (q1_weight : Nat) (q1_after : Nat) (q1_before : Nat) (q1_placeOf : Nat) (q1_taskAt : Nat) (v_all : Int32) (v_early : Nat → Int32) (v_tail : Nat → Int32) (w1_tasks : Int32) (w1_ties : Int32) (w1_weight : Nat → Int32) (w1_after : Nat → Int64) (w1_taskAt : Nat → Int32) (post : (Int32) → (Nat → Int32) → (Nat → Int32) → Prop) (hw : wp_X6_measure v_all v_early v_tail w1_tasks w1_weight w1_after w1_taskAt post) : gb_Cv D cI cJ cZ cO l yX6_measure wsX6_measure ({ frames := 3, cells := 0, slots := 0, locals := 89 }) [.ref o, .ref q1] [(o, .inr (6, [.ref o_early, .ref o_tail, .int v_all])), (o_early, .inl (cI, 60, .inl v_early)), (o_tail, .inl (cI, 60, .inl v_tail)), (q1, .inr (2, [.ref q1_weight, .ref q1_after, .ref q1_before, .ref q1_placeOf, .ref q1_taskAt, .int w1_tasks, .int w1_ties])), (q1_weight, .inl (cI, 60, .inl w1_weight)), (q1_after, .inl (cJ, 60, .inr (.inl w1_after))), (q1_taskAt, .inl (cI, 60, .inl w1_taskAt))] (fun u : (Int32) × (Nat → Int32) × (Nat → Int32) => post u.1 u.2.1 u.2.2) (fun u : (Int32) × (Nat → Int32) × (Nat → Int32) => [(o, .inr (6, [.ref o_early, .ref o_tail, .int u.1])), (o_early, .inl (cI, 60, .inl u.2.1)), (o_tail, .inl (cI, 60, .inl u.2.2)), (q1, .inr (2, [.ref q1_weight, .ref q1_after, .ref q1_before, .ref q1_placeOf, .ref q1_taskAt, .int w1_tasks, .int w1_ties])), (q1_weight, .inl (cI, 60, .inl w1_weight)), (q1_after, .inl (cJ, 60, .inr (.inl w1_after))), (q1_taskAt, .inl (cI, 60, .inl w1_taskAt))]) 0 0 := by
  refine gb_mv (cc := cX6_measure) (maxL := 2) (ret := none) (by decide) rfl (Nat.le_of_ble_eq_true rfl) ?_
  · intro p e s m below meth c A C hP hD hS ls hl
    obtain ⟨hx, hb, hr, hml, hown, hts, hlocks, hnm, hK, hA⟩ := id C
    replace hown : s.vm.findClass RX6 = some m.cls := hown
    have h := hw
    unfold wp_X6_measure at h
    replace hl : lv_has ls 2 [(0, .ref o), (1, .ref q1)] := hl
    refine lv_aload_n hx hb dX6_measure_0 rfl (lv_at hl 0 rfl) ?_
    refine lv_aload_n hx hb dX6_measure_1 rfl (lv_at hl 1 rfl) ?_
    refine gb_kv (wc := [(o, .inr (6, [.ref o_early, .ref o_tail, .int v_all])), (o_early, .inl (cI, 60, .inl v_early)), (q1, .inr (2, [.ref q1_weight, .ref q1_after, .ref q1_before, .ref q1_placeOf, .ref q1_taskAt, .int w1_tasks, .int w1_ties])), (q1_weight, .inl (cI, 60, .inl w1_weight)), (q1_after, .inl (cJ, 60, .inr (.inl w1_after))), (q1_taskAt, .inl (cI, 60, .inl w1_taskAt))]) (wr := [(o_tail, .inl (cI, 60, .inl v_tail))]) C hP hD hS [0, 1, 3, 4, 5, 6] [2] rfl rfl (by decide) (gb_rV (As := [.ref q1]) (rest := []) C ((c_X6_measureEarly l D cI cJ cZ cO o o_early o_tail q1 q1_weight q1_after q1_before q1_placeOf q1_taskAt v_all v_early w1_tasks w1_ties w1_weight w1_after w1_taskAt _ h) _) rfl (cw_X6_measure_18 hts ⟨Nat.le_of_ble_eq_true rfl, Nat.le_of_ble_eq_true rfl⟩) (ci := 6) (q0 := 0) rfl rfl rfl rfl hl.1 rfl (Nat.le_of_ble_eq_true rfl) dX6_measure_2 ⟨Nat.zero_le _, Nat.zero_le _⟩) ?_
    rintro ⟨v_all_1, v_early_2⟩ H locs h hP hD hS
    try dsimp only at h
    replace hP : va_P D vwCl [(o_tail, .inl (cI, 60, .inl v_tail)), (o, .inr (6, [.ref o_early, .ref o_tail, .int v_all_1])), (o_early, .inl (cI, 60, .inl v_early_2)), (q1, .inr (2, [.ref q1_weight, .ref q1_after, .ref q1_before, .ref q1_placeOf, .ref q1_taskAt, .int w1_tasks, .int w1_ties])), (q1_weight, .inl (cI, 60, .inl w1_weight)), (q1_after, .inl (cJ, 60, .inr (.inl w1_after))), (q1_taskAt, .inl (cI, 60, .inl w1_taskAt))] H := hP
    replace hD : va_D A [(o_tail, .inl (cI, 60, .inl v_tail)), (o, .inr (6, [.ref o_early, .ref o_tail, .int v_all_1])), (o_early, .inl (cI, 60, .inl v_early_2)), (q1, .inr (2, [.ref q1_weight, .ref q1_after, .ref q1_before, .ref q1_placeOf, .ref q1_taskAt, .int w1_tasks, .int w1_ties])), (q1_weight, .inl (cI, 60, .inl w1_weight)), (q1_after, .inl (cJ, 60, .inr (.inl w1_after))), (q1_taskAt, .inl (cI, 60, .inl w1_taskAt))] := hD
    refine lv_aload_n hx hb dX6_measure_5 rfl (lv_at hl 0 rfl) ?_
    refine lv_aload_n hx hb dX6_measure_6 rfl (lv_at hl 1 rfl) ?_
    refine gb_kv (wc := [(o, .inr (6, [.ref o_early, .ref o_tail, .int v_all_1])), (o_tail, .inl (cI, 60, .inl v_tail)), (q1, .inr (2, [.ref q1_weight, .ref q1_after, .ref q1_before, .ref q1_placeOf, .ref q1_taskAt, .int w1_tasks, .int w1_ties])), (q1_weight, .inl (cI, 60, .inl w1_weight)), (q1_after, .inl (cJ, 60, .inr (.inl w1_after))), (q1_taskAt, .inl (cI, 60, .inl w1_taskAt))]) (wr := [(o_early, .inl (cI, 60, .inl v_early_2))]) C hP hD hS [1, 0, 3, 4, 5, 6] [2] rfl rfl (by decide) (gb_rV (As := [.ref q1]) (rest := []) C ((c_X6_measureTail l D cI cJ cZ cO o o_early o_tail q1 q1_weight q1_after q1_before q1_placeOf q1_taskAt v_all_1 v_tail w1_tasks w1_ties w1_weight w1_after w1_taskAt _ h) _) rfl (cw_X6_measure_22 hts ⟨Nat.le_of_ble_eq_true rfl, Nat.le_of_ble_eq_true rfl⟩) (ci := 6) (q0 := 0) rfl rfl rfl rfl hl.1 rfl (Nat.le_of_ble_eq_true rfl) dX6_measure_7 ⟨Nat.zero_le _, Nat.zero_le _⟩) ?_
    rintro v_tail_3 H locs h hP hD hS
    try dsimp only at h
    replace hP : va_P D vwCl [(o_early, .inl (cI, 60, .inl v_early_2)), (o, .inr (6, [.ref o_early, .ref o_tail, .int v_all_1])), (o_tail, .inl (cI, 60, .inl v_tail_3)), (q1, .inr (2, [.ref q1_weight, .ref q1_after, .ref q1_before, .ref q1_placeOf, .ref q1_taskAt, .int w1_tasks, .int w1_ties])), (q1_weight, .inl (cI, 60, .inl w1_weight)), (q1_after, .inl (cJ, 60, .inr (.inl w1_after))), (q1_taskAt, .inl (cI, 60, .inl w1_taskAt))] H := hP
    replace hD : va_D A [(o_early, .inl (cI, 60, .inl v_early_2)), (o, .inr (6, [.ref o_early, .ref o_tail, .int v_all_1])), (o_tail, .inl (cI, 60, .inl v_tail_3)), (q1, .inr (2, [.ref q1_weight, .ref q1_after, .ref q1_before, .ref q1_placeOf, .ref q1_taskAt, .int w1_tasks, .int w1_ties])), (q1_weight, .inl (cI, 60, .inl w1_weight)), (q1_after, .inl (cJ, 60, .inr (.inl w1_after))), (q1_taskAt, .inl (cI, 60, .inl w1_taskAt))] := hD
    exact gb_retv C (v_all_1, v_early_2, v_tail_3) (hP.sub [1, 0, 2, 3, 4, 5, 6] rfl) (hD.sub [1, 0, 2, 3, 4, 5, 6] (by decide) rfl) hS h dX6_measure_10
/-! OrderKeeper$Times.lateOf(I)I -/
theorem in_X6_lateOf_X6 : ∀ w ∈ wsX60, w ∈ wsX6_lateOf := fun _ h => List.mem_cons_of_mem _ (List.mem_append_right _ h)
theorem hdS_X6_lateOf : yX6_lateOf.cls ≠ "java/lang/invoke/MethodHandle" ∧ yX6_lateOf.cls ≠ "java/lang/invoke/VarHandle" ∧ (parseMethodDescriptor yX6_lateOf.desc).map (fun d => d.parameters.length) = some 1 := by decide +kernel
theorem hdV_X6_lateOf : yX6_lateOf.cls = RX6 ∧ yX6_lateOf.cls ≠ "java/lang/invoke/MethodHandle" ∧ yX6_lateOf.cls ≠ "java/lang/invoke/VarHandle" ∧ (parseMethodDescriptor yX6_lateOf.desc).map (fun d => d.parameters.length) = some 1 := ⟨rfl, hdS_X6_lateOf⟩
def wp_X6_lateOf (v_all : Int32) (v_tail : Nat → Int32) (a1 : Int32) (post : Int32 → Prop) : Prop := vp_in a1 60 ∧ post (v_all - (v_tail a1.toNatClampNeg))
set_option maxHeartbeats 4000000 in
set_option maxRecDepth 100000 in
theorem c_X6_lateOf (l : Launch) (D : va_G) (cI cJ cZ cO : ClassId) (o : Nat) (o_early : Nat) (o_tail : Nat) (v_all : Int32) (v_tail : Nat → Int32) (a1 : Int32) (post : Int32 → Prop) (hw : wp_X6_lateOf v_all v_tail a1 post) : gb_Ci D cI cJ cZ cO l yX6_lateOf wsX6_lateOf ({ frames := 0, cells := 0, slots := 0, locals := 0 }) [.ref o, .int a1] [(o, .inr (6, [.ref o_early, .ref o_tail, .int v_all])), (o_tail, .inl (cI, 60, .inl v_tail))] (fun (r : Int32) (_ : Unit) => post r ) (fun _ : Unit => [(o, .inr (6, [.ref o_early, .ref o_tail, .int v_all])), (o_tail, .inl (cI, 60, .inl v_tail))]) 0 0 := by
  refine gb_mi (cc := cX6_lateOf) (maxL := 2) (ret := (some .int)) (by decide) rfl (Nat.le_of_ble_eq_true rfl) ?_
  · intro p e s m below meth c A C hP hD hS ls hl
    obtain ⟨hx, hb, hr, hml, hown, hts, hlocks, hnm, hK, hA⟩ := id C
    replace hown : s.vm.findClass RX6 = some m.cls := hown
    have h := hw
    unfold wp_X6_lateOf at h
    replace hl : lv_has ls 2 [(0, .ref o), (1, .int a1)] := hl
    refine lv_aload_n hx hb dX6_lateOf_0 rfl (lv_at hl 0 rfl) ?_
    refine va_get (D := D) (ci := 6) (v := .int v_all) (C := RX6) (T := TX6) (N := 3) hx hb hts in_X6_lateOf_X6 hown hK.1 hP 0 rfl rfl 2 (by decide) (hts (.fieldLink RX6 25 "OrderKeeper$Times" "all" "I") (List.mem_of_getElem? (i := 1) rfl)) (fun _ h9 => h9) rfl dX6_lateOf_1 ?_
    refine lv_aload_n hx hb dX6_lateOf_4 rfl (lv_at hl 0 rfl) ?_
    refine va_get (D := D) (ci := 6) (v := .ref o_tail) (C := RX6) (T := TX6) (N := 3) hx hb hts in_X6_lateOf_X6 hown hK.1 hP 0 rfl rfl 1 (by decide) (hts (.fieldLink RX6 15 "OrderKeeper$Times" "tail" "[I") (List.mem_of_getElem? (i := 2) rfl)) (fun _ h9 => h9) rfl dX6_lateOf_5 ?_
    refine lv_iload_n hx hb dX6_lateOf_8 rfl (lv_at hl 1 rfl) ?_
    obtain ⟨hi1, h⟩ := h
    refine va_iald hx hb hK.1 hP 1 0 rfl rfl hi1 dX6_lateOf_9 ?_
    refine lv_isub hx hb dX6_lateOf_10 ?_
    exact gb_reti C () (hP.sub [0, 1] rfl) (hD.sub [0, 1] (by decide) rfl) hS h dX6_lateOf_11
/-! OrderKeeper$Times.isCritical(I)Z -/
theorem in_X6_isCritical_X6 : ∀ w ∈ wsX60, w ∈ wsX6_isCritical := fun _ h => List.mem_cons_of_mem _ (List.mem_append_right _ h)
theorem hdS_X6_isCritical : yX6_isCritical.cls ≠ "java/lang/invoke/MethodHandle" ∧ yX6_isCritical.cls ≠ "java/lang/invoke/VarHandle" ∧ (parseMethodDescriptor yX6_isCritical.desc).map (fun d => d.parameters.length) = some 1 := by decide +kernel
theorem hdV_X6_isCritical : yX6_isCritical.cls = RX6 ∧ yX6_isCritical.cls ≠ "java/lang/invoke/MethodHandle" ∧ yX6_isCritical.cls ≠ "java/lang/invoke/VarHandle" ∧ (parseMethodDescriptor yX6_isCritical.desc).map (fun d => d.parameters.length) = some 1 := ⟨rfl, hdS_X6_isCritical⟩
theorem cw_X6_isCritical_50 {R : Room} {s : State} {args : Array Value} (hts : ∀ w ∈ wsX6_isCritical, w.before args s = true) (hR : 0 + 1 ≤ R.frames ∧ 8 + (2 + 11) + 0 ≤ R.locals) : CallW R s args RX6 RX6 50 yX6_lateOf cX6_lateOf 2 (some .int) wsX6_lateOf ({ frames := 0, cells := 0, slots := 0, locals := 0 }) 0 0 1 := cwV 1 hts gX6_isCritical_X6_lateOf rfl rfl rfl hdV_X6_lateOf hR
def wp_X6_isCritical (v_all : Int32) (v_early : Nat → Int32) (v_tail : Nat → Int32) (a1 : Int32) (post : Int32 → Prop) : Prop := vp_in a1 60 ∧ wp_X6_lateOf v_all v_tail a1 (fun (r_2 : Int32) => (((v_early a1.toNatClampNeg) = r_2 → post 1) ∧ (¬ ((v_early a1.toNatClampNeg) = r_2) → post 0)))
set_option maxHeartbeats 4000000 in
set_option maxRecDepth 100000 in
theorem c_X6_isCritical (l : Launch) (D : va_G) (cI cJ cZ cO : ClassId) (o : Nat) (o_early : Nat) (o_tail : Nat) (v_all : Int32) (v_early : Nat → Int32) (v_tail : Nat → Int32) (a1 : Int32) (post : Int32 → Prop) (hw : wp_X6_isCritical v_all v_early v_tail a1 post) : gb_Ci D cI cJ cZ cO l yX6_isCritical wsX6_isCritical ({ frames := 1, cells := 0, slots := 0, locals := 21 }) [.ref o, .int a1] [(o, .inr (6, [.ref o_early, .ref o_tail, .int v_all])), (o_early, .inl (cI, 60, .inl v_early)), (o_tail, .inl (cI, 60, .inl v_tail))] (fun (r : Int32) (_ : Unit) => post r ) (fun _ : Unit => [(o, .inr (6, [.ref o_early, .ref o_tail, .int v_all])), (o_early, .inl (cI, 60, .inl v_early)), (o_tail, .inl (cI, 60, .inl v_tail))]) 0 0 := by
  refine gb_mi (cc := cX6_isCritical) (maxL := 2) (ret := (some .boolean)) (by decide) rfl (Nat.le_of_ble_eq_true rfl) ?_
  · intro p e s m below meth c A C hP hD hS ls hl
    obtain ⟨hx, hb, hr, hml, hown, hts, hlocks, hnm, hK, hA⟩ := id C
    replace hown : s.vm.findClass RX6 = some m.cls := hown
    have h := hw
    unfold wp_X6_isCritical at h
    replace hl : lv_has ls 2 [(0, .ref o), (1, .int a1)] := hl
    refine lv_aload_n hx hb dX6_isCritical_0 rfl (lv_at hl 0 rfl) ?_
    refine va_get (D := D) (ci := 6) (v := .ref o_early) (C := RX6) (T := TX6) (N := 3) hx hb hts in_X6_isCritical_X6 hown hK.1 hP 0 rfl rfl 0 (by decide) (hts (.fieldLink RX6 9 "OrderKeeper$Times" "early" "[I") (List.mem_of_getElem? (i := 1) rfl)) (fun _ h9 => h9) rfl dX6_isCritical_1 ?_
    refine lv_iload_n hx hb dX6_isCritical_4 rfl (lv_at hl 1 rfl) ?_
    obtain ⟨hi1, h⟩ := h
    refine va_iald hx hb hK.1 hP 1 0 rfl rfl hi1 dX6_isCritical_5 ?_
    refine lv_aload_n hx hb dX6_isCritical_6 rfl (lv_at hl 0 rfl) ?_
    refine lv_iload_n hx hb dX6_isCritical_7 rfl (lv_at hl 1 rfl) ?_
    refine gb_ki (wc := [(o, .inr (6, [.ref o_early, .ref o_tail, .int v_all])), (o_tail, .inl (cI, 60, .inl v_tail))]) (wr := [(o_early, .inl (cI, 60, .inl v_early))]) C hP hD hS [0, 2] [1] rfl rfl (by decide) (gb_rV (As := [.int a1]) (rest := [.int (v_early a1.toNatClampNeg)]) C ((c_X6_lateOf l D cI cJ cZ cO o o_early o_tail v_all v_tail a1 _ h) _) rfl (cw_X6_isCritical_50 hts ⟨Nat.le_of_ble_eq_true rfl, Nat.le_of_ble_eq_true rfl⟩) (ci := 6) (q0 := 0) rfl rfl rfl rfl hl.1 rfl (Nat.le_of_ble_eq_true rfl) dX6_isCritical_8 ⟨Nat.zero_le _, Nat.zero_le _⟩) ?_
    rintro r_2 _ H locs h hP hD hS
    try dsimp only at h
    replace hP : va_P D vwCl [(o_early, .inl (cI, 60, .inl v_early)), (o, .inr (6, [.ref o_early, .ref o_tail, .int v_all])), (o_tail, .inl (cI, 60, .inl v_tail))] H := hP
    replace hD : va_D A [(o_early, .inl (cI, 60, .inl v_early)), (o, .inr (6, [.ref o_early, .ref o_tail, .int v_all])), (o_tail, .inl (cI, 60, .inl v_tail))] := hD
    refine lv_icmp_ne (tgt := 18) hx hb dX6_isCritical_11 (by decide) (fun c3 => ?_) (fun c3 => ?_)
    · replace h := h.2 c3
      refine lv_iconst (v := 0) hx hb dX6_isCritical_18 (by decide) ?_
      exact gb_retz C () (hP.sub [1, 0, 2] rfl) (hD.sub [1, 0, 2] (by decide) rfl) hS (by decide) h dX6_isCritical_19
    · replace h := h.1 c3
      refine lv_iconst (v := 1) hx hb dX6_isCritical_14 (by decide) ?_
      refine lv_goto (tgt := 19) hx hb dX6_isCritical_15 (by decide) ?_
      exact gb_retz C () (hP.sub [1, 0, 2] rfl) (hD.sub [1, 0, 2] (by decide) rfl) hS (by decide) h dX6_isCritical_19
/-! OrderKeeper$Times.firstCritical(LOrderKeeper$Net;)I -/
theorem in_X6_firstCritical_X2 : ∀ w ∈ wsX20, w ∈ wsX6_firstCritical := fun _ h => List.mem_cons_of_mem _ (List.mem_append_left _ (List.mem_append_right _ h))
theorem in_X6_firstCritical_X6 : ∀ w ∈ wsX60, w ∈ wsX6_firstCritical := fun _ h => List.mem_cons_of_mem _ (List.mem_append_right _ h)
theorem hdS_X6_firstCritical : yX6_firstCritical.cls ≠ "java/lang/invoke/MethodHandle" ∧ yX6_firstCritical.cls ≠ "java/lang/invoke/VarHandle" ∧ (parseMethodDescriptor yX6_firstCritical.desc).map (fun d => d.parameters.length) = some 1 := by decide +kernel
theorem hdV_X6_firstCritical : yX6_firstCritical.cls = RX6 ∧ yX6_firstCritical.cls ≠ "java/lang/invoke/MethodHandle" ∧ yX6_firstCritical.cls ≠ "java/lang/invoke/VarHandle" ∧ (parseMethodDescriptor yX6_firstCritical.desc).map (fun d => d.parameters.length) = some 1 := ⟨rfl, hdS_X6_firstCritical⟩
theorem cw_X6_firstCritical_54 {R : Room} {s : State} {args : Array Value} (hts : ∀ w ∈ wsX6_firstCritical, w.before args s = true) (hR : 1 + 1 ≤ R.frames ∧ 8 + (2 + 11) + 21 ≤ R.locals) : CallW R s args RX6 RX6 54 yX6_isCritical cX6_isCritical 2 (some .boolean) wsX6_isCritical ({ frames := 1, cells := 0, slots := 0, locals := 21 }) 0 0 1 := cwV 1 hts gX6_firstCritical_X6_isCritical rfl rfl rfl hdV_X6_isCritical hR
def lp_X6_firstCritical_2 (v_all : Int32) (v_early : Nat → Int32) (v_tail : Nat → Int32) (w1_tasks : Int32) (post : Int32 → Prop) : Nat → (Int32) → (Prop) → Prop
  | 0, _, _ => False
  | n2 + 1, x2, kx => ((w1_tasks ≤ x2 → kx) ∧ (¬ (w1_tasks ≤ x2) → wp_X6_isCritical v_all v_early v_tail x2 (fun (r_2 : Int32) => ((r_2 = 0 → ∀ x2_4 : Int32, x2_4 = x2 + 1 → lp_X6_firstCritical_2 v_all v_early v_tail w1_tasks post n2 x2_4 kx) ∧ (¬ (r_2 = 0) → vp_in x2 60 ∧ (((v_early x2.toNatClampNeg) = 0 → post x2) ∧ (¬ ((v_early x2.toNatClampNeg) = 0) → ∀ x2_7 : Int32, x2_7 = x2 + 1 → lp_X6_firstCritical_2 v_all v_early v_tail w1_tasks post n2 x2_7 kx)))))))
set_option maxHeartbeats 4000000 in
set_option maxRecDepth 100000 in
theorem ml_X6_firstCritical_2 {D : va_G} {cI cJ cZ cO : ClassId} {p : Program} {l : Launch} {e : Env} {s : State} {m : MethodId} {below : List Frame} {meth : Method} {c : Code} {A : Nat → Prop} (o : Nat) (o_early : Nat) (o_tail : Nat) (q1 : Nat) (q1_weight : Nat) (q1_after : Nat) (q1_before : Nat) (q1_placeOf : Nat) (q1_taskAt : Nat) (v_all : Int32) (v_early : Nat → Int32) (v_tail : Nat → Int32) (w1_tasks : Int32) (w1_ties : Int32) (C : gb_At D cI cJ cZ cO p s m meth c ([.ref o, .ref q1] : List Value).toArray A yX6_firstCritical cX6_firstCritical (some .int) 3 wsX6_firstCritical) (post : Int32 → Prop) (kx : (Prop)) (hkx : ∀  (H : Heap) (locs : List Loc), va_P D vwCl [(o, .inr (6, [.ref o_early, .ref o_tail, .int v_all])), (o_early, .inl (cI, 60, .inl v_early)), (o_tail, .inl (cI, 60, .inl v_tail)), (q1, .inr (2, [.ref q1_weight, .ref q1_after, .ref q1_before, .ref q1_placeOf, .ref q1_taskAt, .int w1_tasks, .int w1_ties]))] H → va_D A [(o, .inr (6, [.ref o_early, .ref o_tail, .int v_all])), (o_early, .inl (cI, 60, .inl v_early)), (o_tail, .inl (cI, 60, .inl v_tail)), (q1, .inr (2, [.ref q1_weight, .ref q1_after, .ref q1_before, .ref q1_placeOf, .ref q1_taskAt, .int w1_tasks, .int w1_ties]))] → va_S A s.heap H locs → ∀ ls : Array Slot, lv_has ls 3 [] → kx  → W p l e ({ frames := 2, cells := 0, slots := 0, locals := 42 } : Room) s m ([.ref o, .ref q1] : List Value).toArray below meth c H locs 0 0 (MQ below (va_Qi (fun (r : Int32) (_ : Unit) => post r ) (gb_B D (fun _ : Unit => [(o, .inr (6, [.ref o_early, .ref o_tail, .int v_all])), (o_early, .inl (cI, 60, .inl v_early)), (o_tail, .inl (cI, 60, .inl v_tail)), (q1, .inr (2, [.ref q1_weight, .ref q1_after, .ref q1_before, .ref q1_placeOf, .ref q1_taskAt, .int w1_tasks, .int w1_ties]))]) A) A) ([.ref o, .ref q1] : List Value).toArray s 0 0 A) (F0 m 35 ls [])) :
    ∀ (n2 : Nat) (x2 : Int32) (H : Heap) (locs : List Loc), va_P D vwCl [(o, .inr (6, [.ref o_early, .ref o_tail, .int v_all])), (o_early, .inl (cI, 60, .inl v_early)), (o_tail, .inl (cI, 60, .inl v_tail)), (q1, .inr (2, [.ref q1_weight, .ref q1_after, .ref q1_before, .ref q1_placeOf, .ref q1_taskAt, .int w1_tasks, .int w1_ties]))] H → va_D A [(o, .inr (6, [.ref o_early, .ref o_tail, .int v_all])), (o_early, .inl (cI, 60, .inl v_early)), (o_tail, .inl (cI, 60, .inl v_tail)), (q1, .inr (2, [.ref q1_weight, .ref q1_after, .ref q1_before, .ref q1_placeOf, .ref q1_taskAt, .int w1_tasks, .int w1_ties]))] → va_S A s.heap H locs → ∀ ls : Array Slot, lv_has ls 3 [(0, .ref o), (1, .ref q1), (2, .int x2)] → lp_X6_firstCritical_2 v_all v_early v_tail w1_tasks post n2 x2 kx → W p l e ({ frames := 2, cells := 0, slots := 0, locals := 42 } : Room) s m ([.ref o, .ref q1] : List Value).toArray below meth c H locs 0 0 (MQ below (va_Qi (fun (r : Int32) (_ : Unit) => post r ) (gb_B D (fun _ : Unit => [(o, .inr (6, [.ref o_early, .ref o_tail, .int v_all])), (o_early, .inl (cI, 60, .inl v_early)), (o_tail, .inl (cI, 60, .inl v_tail)), (q1, .inr (2, [.ref q1_weight, .ref q1_after, .ref q1_before, .ref q1_placeOf, .ref q1_taskAt, .int w1_tasks, .int w1_ties]))]) A) A) ([.ref o, .ref q1] : List Value).toArray s 0 0 A) (F0 m 2 ls []) := by
  obtain ⟨hx, hb, hr, hml, hown, hts, hlocks, hnm, hK, hA⟩ := id C
  replace hown : s.vm.findClass RX6 = some m.cls := hown
  intro n2
  induction n2 with
  | zero => intro x2 H locs hP hD hS ls hl h; exact False.elim h
  | succ n2 ih =>
    intro x2 H locs hP hD hS ls hl h
    rw [lp_X6_firstCritical_2] at h
    refine lv_iload_n hx hb dX6_firstCritical_2 rfl (lv_at hl 2 rfl) ?_
    refine lv_aload_n hx hb dX6_firstCritical_3 rfl (lv_at hl 1 rfl) ?_
    refine va_get (D := D) (ci := 2) (v := .int w1_tasks) (C := RX2) (T := TX2) (N := 7) hx hb hts in_X6_firstCritical_X2 hown hK.1 hP 3 rfl rfl 5 (by decide) (hts (.fieldLink RX6 29 "OrderKeeper$Net" "tasks" "I") (List.mem_of_getElem? (i := 1) rfl)) (fun _ h9 => h9) rfl dX6_firstCritical_4 ?_
    refine lv_icmp_ge (tgt := 35) hx hb dX6_firstCritical_7 (by decide) (fun c1 => ?_) (fun c1 => ?_)
    · replace h := h.1 c1
      exact hkx _ _ (hP.sub [0, 1, 2, 3] rfl) (hD.sub [0, 1, 2, 3] (by decide) rfl) hS ls (lv_sub hl [] rfl) h
    · replace h := h.2 c1
      refine lv_aload_n hx hb dX6_firstCritical_10 rfl (lv_at hl 0 rfl) ?_
      refine lv_iload_n hx hb dX6_firstCritical_11 rfl (lv_at hl 2 rfl) ?_
      refine gb_ki (wc := [(o, .inr (6, [.ref o_early, .ref o_tail, .int v_all])), (o_early, .inl (cI, 60, .inl v_early)), (o_tail, .inl (cI, 60, .inl v_tail))]) (wr := [(q1, .inr (2, [.ref q1_weight, .ref q1_after, .ref q1_before, .ref q1_placeOf, .ref q1_taskAt, .int w1_tasks, .int w1_ties]))]) C hP hD hS [0, 1, 2] [3] rfl rfl (by decide) (gb_rV (As := [.int x2]) (rest := []) C ((c_X6_isCritical l D cI cJ cZ cO o o_early o_tail v_all v_early v_tail x2 _ h) _) rfl (cw_X6_firstCritical_54 hts ⟨Nat.le_of_ble_eq_true rfl, Nat.le_of_ble_eq_true rfl⟩) (ci := 6) (q0 := 0) rfl rfl rfl rfl hl.1 rfl (Nat.le_of_ble_eq_true rfl) dX6_firstCritical_12 ⟨Nat.zero_le _, Nat.zero_le _⟩) ?_
      rintro r_2 _ H locs h hP hD hS
      try dsimp only at h
      replace hP : va_P D vwCl [(q1, .inr (2, [.ref q1_weight, .ref q1_after, .ref q1_before, .ref q1_placeOf, .ref q1_taskAt, .int w1_tasks, .int w1_ties])), (o, .inr (6, [.ref o_early, .ref o_tail, .int v_all])), (o_early, .inl (cI, 60, .inl v_early)), (o_tail, .inl (cI, 60, .inl v_tail))] H := hP
      replace hD : va_D A [(q1, .inr (2, [.ref q1_weight, .ref q1_after, .ref q1_before, .ref q1_placeOf, .ref q1_taskAt, .int w1_tasks, .int w1_ties])), (o, .inr (6, [.ref o_early, .ref o_tail, .int v_all])), (o_early, .inl (cI, 60, .inl v_early)), (o_tail, .inl (cI, 60, .inl v_tail))] := hD
      refine lv_if_eq (tgt := 29) hx hb dX6_firstCritical_15 (by decide) (fun c3 => ?_) (fun c3 => ?_)
      · replace h := h.1 c3
        obtain ⟨x2_4, ex2_4⟩ : ∃ z : Int32, z = x2 + 1 := ⟨_, rfl⟩
        refine lv_iinc (v := x2_4) (lv' := [(2, .int x2_4), (0, .ref o), (1, .ref q1)]) hx hb dX6_firstCritical_29 hl (k := 2) rfl (by rw [ex2_4]; rfl) (by decide) rfl (fun ls hl => ?_)
        replace h := h x2_4 ex2_4
        refine lv_goto (tgt := 2) hx hb dX6_firstCritical_32 (by decide) ?_
        exact ih x2_4 _ _ (hP.sub [1, 2, 3, 0] rfl) (hD.sub [1, 2, 3, 0] (by decide) rfl) hS ls (lv_sub hl [1, 2, 0] rfl) h
      · replace h := h.2 c3
        refine lv_aload_n hx hb dX6_firstCritical_18 rfl (lv_at hl 0 rfl) ?_
        refine va_get (D := D) (ci := 6) (v := .ref o_early) (C := RX6) (T := TX6) (N := 3) hx hb hts in_X6_firstCritical_X6 hown hK.1 hP 1 rfl rfl 0 (by decide) (hts (.fieldLink RX6 9 "OrderKeeper$Times" "early" "[I") (List.mem_of_getElem? (i := 2) rfl)) (fun _ h9 => h9) rfl dX6_firstCritical_19 ?_
        refine lv_iload_n hx hb dX6_firstCritical_22 rfl (lv_at hl 2 rfl) ?_
        obtain ⟨hi5, h⟩ := h
        refine va_iald hx hb hK.1 hP 2 0 rfl rfl hi5 dX6_firstCritical_23 ?_
        refine lv_if_ne (tgt := 29) hx hb dX6_firstCritical_24 (by decide) (fun c6 => ?_) (fun c6 => ?_)
        · replace h := h.2 c6
          obtain ⟨x2_7, ex2_7⟩ : ∃ z : Int32, z = x2 + 1 := ⟨_, rfl⟩
          refine lv_iinc (v := x2_7) (lv' := [(2, .int x2_7), (0, .ref o), (1, .ref q1)]) hx hb dX6_firstCritical_29 hl (k := 2) rfl (by rw [ex2_7]; rfl) (by decide) rfl (fun ls hl => ?_)
          replace h := h x2_7 ex2_7
          refine lv_goto (tgt := 2) hx hb dX6_firstCritical_32 (by decide) ?_
          exact ih x2_7 _ _ (hP.sub [1, 2, 3, 0] rfl) (hD.sub [1, 2, 3, 0] (by decide) rfl) hS ls (lv_sub hl [1, 2, 0] rfl) h
        · replace h := h.1 c6
          refine lv_iload_n hx hb dX6_firstCritical_27 rfl (lv_at hl 2 rfl) ?_
          exact gb_reti C () (hP.sub [1, 2, 3, 0] rfl) (hD.sub [1, 2, 3, 0] (by decide) rfl) hS h dX6_firstCritical_28
def wp_X6_firstCritical (v_all : Int32) (v_early : Nat → Int32) (v_tail : Nat → Int32) (w1_tasks : Int32) (post : Int32 → Prop) : Prop := (∃ n2 : Nat, lp_X6_firstCritical_2 v_all v_early v_tail w1_tasks post n2 0 (post (-1)))
set_option maxHeartbeats 4000000 in
set_option maxRecDepth 100000 in
theorem c_X6_firstCritical (l : Launch) (D : va_G) (cI cJ cZ cO : ClassId) (o : Nat) (o_early : Nat) (o_tail : Nat) (q1 : Nat) (q1_weight : Nat) (q1_after : Nat) (q1_before : Nat) (q1_placeOf : Nat) (q1_taskAt : Nat) (v_all : Int32) (v_early : Nat → Int32) (v_tail : Nat → Int32) (w1_tasks : Int32) (w1_ties : Int32) (post : Int32 → Prop) (hw : wp_X6_firstCritical v_all v_early v_tail w1_tasks post) : gb_Ci D cI cJ cZ cO l yX6_firstCritical wsX6_firstCritical ({ frames := 2, cells := 0, slots := 0, locals := 42 }) [.ref o, .ref q1] [(o, .inr (6, [.ref o_early, .ref o_tail, .int v_all])), (o_early, .inl (cI, 60, .inl v_early)), (o_tail, .inl (cI, 60, .inl v_tail)), (q1, .inr (2, [.ref q1_weight, .ref q1_after, .ref q1_before, .ref q1_placeOf, .ref q1_taskAt, .int w1_tasks, .int w1_ties]))] (fun (r : Int32) (_ : Unit) => post r ) (fun _ : Unit => [(o, .inr (6, [.ref o_early, .ref o_tail, .int v_all])), (o_early, .inl (cI, 60, .inl v_early)), (o_tail, .inl (cI, 60, .inl v_tail)), (q1, .inr (2, [.ref q1_weight, .ref q1_after, .ref q1_before, .ref q1_placeOf, .ref q1_taskAt, .int w1_tasks, .int w1_ties]))]) 0 0 := by
  refine gb_mi (cc := cX6_firstCritical) (maxL := 3) (ret := (some .int)) (by decide) rfl (Nat.le_of_ble_eq_true rfl) ?_
  · intro p e s m below meth c A C hP hD hS ls hl
    obtain ⟨hx, hb, hr, hml, hown, hts, hlocks, hnm, hK, hA⟩ := id C
    replace hown : s.vm.findClass RX6 = some m.cls := hown
    have h := hw
    unfold wp_X6_firstCritical at h
    replace hl : lv_has ls 3 [(0, .ref o), (1, .ref q1)] := hl
    refine lv_iconst (v := 0) hx hb dX6_firstCritical_0 (by decide) ?_
    refine lv_istore_n (lv' := [(2, .int 0), (0, .ref o), (1, .ref q1)]) hx hb dX6_firstCritical_1 rfl hl (by decide) rfl (fun ls hl => ?_)
    obtain ⟨n2, h⟩ := h
    refine ml_X6_firstCritical_2 o o_early o_tail q1 q1_weight q1_after q1_before q1_placeOf q1_taskAt v_all v_early v_tail w1_tasks w1_ties C post _ ?_ n2 0 _ _ (hP.sub [0, 1, 2, 3] rfl) (hD.sub [0, 1, 2, 3] (by decide) rfl) hS ls (lv_sub hl [1, 2, 0] rfl) h
    intro H locs hP hD hS ls hl h
    refine lv_iconst (v := (-1)) hx hb dX6_firstCritical_35 (by decide) ?_
    exact gb_reti C () (hP.sub [0, 1, 2, 3] rfl) (hD.sub [0, 1, 2, 3] (by decide) rfl) hS h dX6_firstCritical_36
/-! OrderKeeper$Times.nextCritical(LOrderKeeper$Net;I)I -/
theorem in_X6_nextCritical_X2 : ∀ w ∈ wsX20, w ∈ wsX6_nextCritical := fun _ h => List.mem_cons_of_mem _ (List.mem_append_right _ h)
theorem in_X6_nextCritical_X6 : ∀ w ∈ wsX60, w ∈ wsX6_nextCritical := fun _ h => List.mem_cons_of_mem _ (List.mem_append_left _ (List.mem_append_right _ h))
theorem hdS_X6_nextCritical : yX6_nextCritical.cls ≠ "java/lang/invoke/MethodHandle" ∧ yX6_nextCritical.cls ≠ "java/lang/invoke/VarHandle" ∧ (parseMethodDescriptor yX6_nextCritical.desc).map (fun d => d.parameters.length) = some 2 := by decide +kernel
theorem hdV_X6_nextCritical : yX6_nextCritical.cls = RX6 ∧ yX6_nextCritical.cls ≠ "java/lang/invoke/MethodHandle" ∧ yX6_nextCritical.cls ≠ "java/lang/invoke/VarHandle" ∧ (parseMethodDescriptor yX6_nextCritical.desc).map (fun d => d.parameters.length) = some 2 := ⟨rfl, hdS_X6_nextCritical⟩
theorem cw_X6_nextCritical_37 {R : Room} {s : State} {args : Array Value} (hts : ∀ w ∈ wsX6_nextCritical, w.before args s = true) (hR : 1 + 1 ≤ R.frames ∧ 8 + (3 + 11) + 22 ≤ R.locals) : CallW R s args RX6 RX2 37 yX2_hasTie cX2_hasTie 3 (some .boolean) wsX2_hasTie ({ frames := 1, cells := 0, slots := 0, locals := 22 }) 0 0 2 := cwV 2 hts gX6_nextCritical_X2_hasTie rfl rfl rfl hdV_X2_hasTie hR
theorem cw_X6_nextCritical_54 {R : Room} {s : State} {args : Array Value} (hts : ∀ w ∈ wsX6_nextCritical, w.before args s = true) (hR : 1 + 1 ≤ R.frames ∧ 8 + (2 + 11) + 21 ≤ R.locals) : CallW R s args RX6 RX6 54 yX6_isCritical cX6_isCritical 2 (some .boolean) wsX6_isCritical ({ frames := 1, cells := 0, slots := 0, locals := 21 }) 0 0 1 := cwV 1 hts gX6_nextCritical_X6_isCritical rfl rfl rfl hdV_X6_isCritical hR
def lp_X6_nextCritical_17 (v_all : Int32) (v_early : Nat → Int32) (v_tail : Nat → Int32) (w1_tasks : Int32) (w1_after : Nat → Int64) (x2 : Int32) (x3 : Int32) (post : Int32 → Prop) : Nat → (Int32) → (Prop) → Prop
  | 0, _, _ => False
  | n17 + 1, x4, kx => ((w1_tasks ≤ x4 → kx) ∧ (¬ (w1_tasks ≤ x4) → wp_X2_hasTie w1_after x2 x4 (fun (r_5 : Int32) => ((r_5 = 0 → ∀ x4_7 : Int32, x4_7 = x4 + 1 → lp_X6_nextCritical_17 v_all v_early v_tail w1_tasks w1_after x2 x3 post n17 x4_7 kx) ∧ (¬ (r_5 = 0) → wp_X6_isCritical v_all v_early v_tail x4 (fun (r_8 : Int32) => ((r_8 = 0 → ∀ x4_10 : Int32, x4_10 = x4 + 1 → lp_X6_nextCritical_17 v_all v_early v_tail w1_tasks w1_after x2 x3 post n17 x4_10 kx) ∧ (¬ (r_8 = 0) → vp_in x4 60 ∧ (((v_early x4.toNatClampNeg) = x3 → post x4) ∧ (¬ ((v_early x4.toNatClampNeg) = x3) → ∀ x4_13 : Int32, x4_13 = x4 + 1 → lp_X6_nextCritical_17 v_all v_early v_tail w1_tasks w1_after x2 x3 post n17 x4_13 kx))))))))))
set_option maxHeartbeats 4000000 in
set_option maxRecDepth 100000 in
theorem ml_X6_nextCritical_17 {D : va_G} {cI cJ cZ cO : ClassId} {p : Program} {l : Launch} {e : Env} {s : State} {m : MethodId} {below : List Frame} {meth : Method} {c : Code} {A : Nat → Prop} (o : Nat) (o_early : Nat) (o_tail : Nat) (q1 : Nat) (q1_weight : Nat) (q1_after : Nat) (q1_before : Nat) (q1_placeOf : Nat) (q1_taskAt : Nat) (v_all : Int32) (v_early : Nat → Int32) (v_tail : Nat → Int32) (w1_tasks : Int32) (w1_ties : Int32) (w1_weight : Nat → Int32) (w1_after : Nat → Int64) (a2 : Int32) (x2 : Int32) (x3 : Int32) (C : gb_At D cI cJ cZ cO p s m meth c ([.ref o, .ref q1, .int a2] : List Value).toArray A yX6_nextCritical cX6_nextCritical (some .int) 5 wsX6_nextCritical) (post : Int32 → Prop) (kx : (Prop)) (hkx : ∀  (H : Heap) (locs : List Loc), va_P D vwCl [(o, .inr (6, [.ref o_early, .ref o_tail, .int v_all])), (o_early, .inl (cI, 60, .inl v_early)), (o_tail, .inl (cI, 60, .inl v_tail)), (q1, .inr (2, [.ref q1_weight, .ref q1_after, .ref q1_before, .ref q1_placeOf, .ref q1_taskAt, .int w1_tasks, .int w1_ties])), (q1_weight, .inl (cI, 60, .inl w1_weight)), (q1_after, .inl (cJ, 60, .inr (.inl w1_after)))] H → va_D A [(o, .inr (6, [.ref o_early, .ref o_tail, .int v_all])), (o_early, .inl (cI, 60, .inl v_early)), (o_tail, .inl (cI, 60, .inl v_tail)), (q1, .inr (2, [.ref q1_weight, .ref q1_after, .ref q1_before, .ref q1_placeOf, .ref q1_taskAt, .int w1_tasks, .int w1_ties])), (q1_weight, .inl (cI, 60, .inl w1_weight)), (q1_after, .inl (cJ, 60, .inr (.inl w1_after)))] → va_S A s.heap H locs → ∀ ls : Array Slot, lv_has ls 5 [] → kx  → W p l e ({ frames := 2, cells := 0, slots := 0, locals := 44 } : Room) s m ([.ref o, .ref q1, .int a2] : List Value).toArray below meth c H locs 0 0 (MQ below (va_Qi (fun (r : Int32) (_ : Unit) => post r ) (gb_B D (fun _ : Unit => [(o, .inr (6, [.ref o_early, .ref o_tail, .int v_all])), (o_early, .inl (cI, 60, .inl v_early)), (o_tail, .inl (cI, 60, .inl v_tail)), (q1, .inr (2, [.ref q1_weight, .ref q1_after, .ref q1_before, .ref q1_placeOf, .ref q1_taskAt, .int w1_tasks, .int w1_ties])), (q1_weight, .inl (cI, 60, .inl w1_weight)), (q1_after, .inl (cJ, 60, .inr (.inl w1_after)))]) A) A) ([.ref o, .ref q1, .int a2] : List Value).toArray s 0 0 A) (F0 m 65 ls [])) :
    ∀ (n17 : Nat) (x4 : Int32) (H : Heap) (locs : List Loc), va_P D vwCl [(o, .inr (6, [.ref o_early, .ref o_tail, .int v_all])), (o_early, .inl (cI, 60, .inl v_early)), (o_tail, .inl (cI, 60, .inl v_tail)), (q1, .inr (2, [.ref q1_weight, .ref q1_after, .ref q1_before, .ref q1_placeOf, .ref q1_taskAt, .int w1_tasks, .int w1_ties])), (q1_weight, .inl (cI, 60, .inl w1_weight)), (q1_after, .inl (cJ, 60, .inr (.inl w1_after)))] H → va_D A [(o, .inr (6, [.ref o_early, .ref o_tail, .int v_all])), (o_early, .inl (cI, 60, .inl v_early)), (o_tail, .inl (cI, 60, .inl v_tail)), (q1, .inr (2, [.ref q1_weight, .ref q1_after, .ref q1_before, .ref q1_placeOf, .ref q1_taskAt, .int w1_tasks, .int w1_ties])), (q1_weight, .inl (cI, 60, .inl w1_weight)), (q1_after, .inl (cJ, 60, .inr (.inl w1_after)))] → va_S A s.heap H locs → ∀ ls : Array Slot, lv_has ls 5 [(0, .ref o), (1, .ref q1), (2, .int x2), (3, .int x3), (4, .int x4)] → lp_X6_nextCritical_17 v_all v_early v_tail w1_tasks w1_after x2 x3 post n17 x4 kx → W p l e ({ frames := 2, cells := 0, slots := 0, locals := 44 } : Room) s m ([.ref o, .ref q1, .int a2] : List Value).toArray below meth c H locs 0 0 (MQ below (va_Qi (fun (r : Int32) (_ : Unit) => post r ) (gb_B D (fun _ : Unit => [(o, .inr (6, [.ref o_early, .ref o_tail, .int v_all])), (o_early, .inl (cI, 60, .inl v_early)), (o_tail, .inl (cI, 60, .inl v_tail)), (q1, .inr (2, [.ref q1_weight, .ref q1_after, .ref q1_before, .ref q1_placeOf, .ref q1_taskAt, .int w1_tasks, .int w1_ties])), (q1_weight, .inl (cI, 60, .inl w1_weight)), (q1_after, .inl (cJ, 60, .inr (.inl w1_after)))]) A) A) ([.ref o, .ref q1, .int a2] : List Value).toArray s 0 0 A) (F0 m 17 ls []) := by
  obtain ⟨hx, hb, hr, hml, hown, hts, hlocks, hnm, hK, hA⟩ := id C
  replace hown : s.vm.findClass RX6 = some m.cls := hown
  intro n17
  induction n17 with
  | zero => intro x4 H locs hP hD hS ls hl h; exact False.elim h
  | succ n17 ih =>
    intro x4 H locs hP hD hS ls hl h
    rw [lp_X6_nextCritical_17] at h
    refine lv_iload hx hb dX6_nextCritical_17 (lv_at hl 4 rfl) ?_
    refine lv_aload_n hx hb dX6_nextCritical_19 rfl (lv_at hl 1 rfl) ?_
    refine va_get (D := D) (ci := 2) (v := .int w1_tasks) (C := RX2) (T := TX2) (N := 7) hx hb hts in_X6_nextCritical_X2 hown hK.1 hP 3 rfl rfl 5 (by decide) (hts (.fieldLink RX6 29 "OrderKeeper$Net" "tasks" "I") (List.mem_of_getElem? (i := 3) rfl)) (fun _ h9 => h9) rfl dX6_nextCritical_20 ?_
    refine lv_icmp_ge (tgt := 65) hx hb dX6_nextCritical_23 (by decide) (fun c4 => ?_) (fun c4 => ?_)
    · replace h := h.1 c4
      exact hkx _ _ (hP.sub [0, 1, 2, 3, 4, 5] rfl) (hD.sub [0, 1, 2, 3, 4, 5] (by decide) rfl) hS ls (lv_sub hl [] rfl) h
    · replace h := h.2 c4
      refine lv_aload_n hx hb dX6_nextCritical_26 rfl (lv_at hl 1 rfl) ?_
      refine lv_iload_n hx hb dX6_nextCritical_27 rfl (lv_at hl 2 rfl) ?_
      refine lv_iload hx hb dX6_nextCritical_28 (lv_at hl 4 rfl) ?_
      refine gb_ki (wc := [(q1, .inr (2, [.ref q1_weight, .ref q1_after, .ref q1_before, .ref q1_placeOf, .ref q1_taskAt, .int w1_tasks, .int w1_ties])), (q1_after, .inl (cJ, 60, .inr (.inl w1_after)))]) (wr := [(o, .inr (6, [.ref o_early, .ref o_tail, .int v_all])), (o_early, .inl (cI, 60, .inl v_early)), (o_tail, .inl (cI, 60, .inl v_tail)), (q1_weight, .inl (cI, 60, .inl w1_weight))]) C hP hD hS [3, 5] [0, 1, 2, 4] rfl rfl (by decide) (gb_rV (As := [.int x2, .int x4]) (rest := []) C ((c_X2_hasTie l D cI cJ cZ cO q1 q1_weight q1_after q1_before q1_placeOf q1_taskAt w1_tasks w1_ties w1_after x2 x4 _ h) _) rfl (cw_X6_nextCritical_37 hts ⟨Nat.le_of_ble_eq_true rfl, Nat.le_of_ble_eq_true rfl⟩) (ci := 2) (q0 := 0) rfl rfl rfl rfl hl.1 rfl (Nat.le_of_ble_eq_true rfl) dX6_nextCritical_30 ⟨Nat.zero_le _, Nat.zero_le _⟩) ?_
      rintro r_5 _ H locs h hP hD hS
      try dsimp only at h
      replace hP : va_P D vwCl [(o, .inr (6, [.ref o_early, .ref o_tail, .int v_all])), (o_early, .inl (cI, 60, .inl v_early)), (o_tail, .inl (cI, 60, .inl v_tail)), (q1_weight, .inl (cI, 60, .inl w1_weight)), (q1, .inr (2, [.ref q1_weight, .ref q1_after, .ref q1_before, .ref q1_placeOf, .ref q1_taskAt, .int w1_tasks, .int w1_ties])), (q1_after, .inl (cJ, 60, .inr (.inl w1_after)))] H := hP
      replace hD : va_D A [(o, .inr (6, [.ref o_early, .ref o_tail, .int v_all])), (o_early, .inl (cI, 60, .inl v_early)), (o_tail, .inl (cI, 60, .inl v_tail)), (q1_weight, .inl (cI, 60, .inl w1_weight)), (q1, .inr (2, [.ref q1_weight, .ref q1_after, .ref q1_before, .ref q1_placeOf, .ref q1_taskAt, .int w1_tasks, .int w1_ties])), (q1_after, .inl (cJ, 60, .inr (.inl w1_after)))] := hD
      refine lv_if_eq (tgt := 59) hx hb dX6_nextCritical_33 (by decide) (fun c6 => ?_) (fun c6 => ?_)
      · replace h := h.1 c6
        obtain ⟨x4_7, ex4_7⟩ : ∃ z : Int32, z = x4 + 1 := ⟨_, rfl⟩
        refine lv_iinc (v := x4_7) (lv' := [(4, .int x4_7), (0, .ref o), (1, .ref q1), (2, .int x2), (3, .int x3)]) hx hb dX6_nextCritical_59 hl (k := 4) rfl (by rw [ex4_7]; rfl) (by decide) rfl (fun ls hl => ?_)
        replace h := h x4_7 ex4_7
        refine lv_goto (tgt := 17) hx hb dX6_nextCritical_62 (by decide) ?_
        exact ih x4_7 _ _ (hP.sub [0, 1, 2, 4, 3, 5] rfl) (hD.sub [0, 1, 2, 4, 3, 5] (by decide) rfl) hS ls (lv_sub hl [1, 2, 3, 4, 0] rfl) h
      · replace h := h.2 c6
        refine lv_aload_n hx hb dX6_nextCritical_36 rfl (lv_at hl 0 rfl) ?_
        refine lv_iload hx hb dX6_nextCritical_37 (lv_at hl 4 rfl) ?_
        refine gb_ki (wc := [(o, .inr (6, [.ref o_early, .ref o_tail, .int v_all])), (o_early, .inl (cI, 60, .inl v_early)), (o_tail, .inl (cI, 60, .inl v_tail))]) (wr := [(q1_weight, .inl (cI, 60, .inl w1_weight)), (q1, .inr (2, [.ref q1_weight, .ref q1_after, .ref q1_before, .ref q1_placeOf, .ref q1_taskAt, .int w1_tasks, .int w1_ties])), (q1_after, .inl (cJ, 60, .inr (.inl w1_after)))]) C hP hD hS [0, 1, 2] [3, 4, 5] rfl rfl (by decide) (gb_rV (As := [.int x4]) (rest := []) C ((c_X6_isCritical l D cI cJ cZ cO o o_early o_tail v_all v_early v_tail x4 _ h) _) rfl (cw_X6_nextCritical_54 hts ⟨Nat.le_of_ble_eq_true rfl, Nat.le_of_ble_eq_true rfl⟩) (ci := 6) (q0 := 0) rfl rfl rfl rfl hl.1 rfl (Nat.le_of_ble_eq_true rfl) dX6_nextCritical_39 ⟨Nat.zero_le _, Nat.zero_le _⟩) ?_
        rintro r_8 _ H locs h hP hD hS
        try dsimp only at h
        replace hP : va_P D vwCl [(q1_weight, .inl (cI, 60, .inl w1_weight)), (q1, .inr (2, [.ref q1_weight, .ref q1_after, .ref q1_before, .ref q1_placeOf, .ref q1_taskAt, .int w1_tasks, .int w1_ties])), (q1_after, .inl (cJ, 60, .inr (.inl w1_after))), (o, .inr (6, [.ref o_early, .ref o_tail, .int v_all])), (o_early, .inl (cI, 60, .inl v_early)), (o_tail, .inl (cI, 60, .inl v_tail))] H := hP
        replace hD : va_D A [(q1_weight, .inl (cI, 60, .inl w1_weight)), (q1, .inr (2, [.ref q1_weight, .ref q1_after, .ref q1_before, .ref q1_placeOf, .ref q1_taskAt, .int w1_tasks, .int w1_ties])), (q1_after, .inl (cJ, 60, .inr (.inl w1_after))), (o, .inr (6, [.ref o_early, .ref o_tail, .int v_all])), (o_early, .inl (cI, 60, .inl v_early)), (o_tail, .inl (cI, 60, .inl v_tail))] := hD
        refine lv_if_eq (tgt := 59) hx hb dX6_nextCritical_42 (by decide) (fun c9 => ?_) (fun c9 => ?_)
        · replace h := h.1 c9
          obtain ⟨x4_10, ex4_10⟩ : ∃ z : Int32, z = x4 + 1 := ⟨_, rfl⟩
          refine lv_iinc (v := x4_10) (lv' := [(4, .int x4_10), (0, .ref o), (1, .ref q1), (2, .int x2), (3, .int x3)]) hx hb dX6_nextCritical_59 hl (k := 4) rfl (by rw [ex4_10]; rfl) (by decide) rfl (fun ls hl => ?_)
          replace h := h x4_10 ex4_10
          refine lv_goto (tgt := 17) hx hb dX6_nextCritical_62 (by decide) ?_
          exact ih x4_10 _ _ (hP.sub [3, 4, 5, 1, 0, 2] rfl) (hD.sub [3, 4, 5, 1, 0, 2] (by decide) rfl) hS ls (lv_sub hl [1, 2, 3, 4, 0] rfl) h
        · replace h := h.2 c9
          refine lv_aload_n hx hb dX6_nextCritical_45 rfl (lv_at hl 0 rfl) ?_
          refine va_get (D := D) (ci := 6) (v := .ref o_early) (C := RX6) (T := TX6) (N := 3) hx hb hts in_X6_nextCritical_X6 hown hK.1 hP 3 rfl rfl 0 (by decide) (hts (.fieldLink RX6 9 "OrderKeeper$Times" "early" "[I") (List.mem_of_getElem? (i := 1) rfl)) (fun _ h9 => h9) rfl dX6_nextCritical_46 ?_
          refine lv_iload hx hb dX6_nextCritical_49 (lv_at hl 4 rfl) ?_
          obtain ⟨hi11, h⟩ := h
          refine va_iald hx hb hK.1 hP 4 0 rfl rfl hi11 dX6_nextCritical_51 ?_
          refine lv_iload_n hx hb dX6_nextCritical_52 rfl (lv_at hl 3 rfl) ?_
          refine lv_icmp_ne (tgt := 59) hx hb dX6_nextCritical_53 (by decide) (fun c12 => ?_) (fun c12 => ?_)
          · replace h := h.2 c12
            obtain ⟨x4_13, ex4_13⟩ : ∃ z : Int32, z = x4 + 1 := ⟨_, rfl⟩
            refine lv_iinc (v := x4_13) (lv' := [(4, .int x4_13), (0, .ref o), (1, .ref q1), (2, .int x2), (3, .int x3)]) hx hb dX6_nextCritical_59 hl (k := 4) rfl (by rw [ex4_13]; rfl) (by decide) rfl (fun ls hl => ?_)
            replace h := h x4_13 ex4_13
            refine lv_goto (tgt := 17) hx hb dX6_nextCritical_62 (by decide) ?_
            exact ih x4_13 _ _ (hP.sub [3, 4, 5, 1, 0, 2] rfl) (hD.sub [3, 4, 5, 1, 0, 2] (by decide) rfl) hS ls (lv_sub hl [1, 2, 3, 4, 0] rfl) h
          · replace h := h.1 c12
            refine lv_iload hx hb dX6_nextCritical_56 (lv_at hl 4 rfl) ?_
            exact gb_reti C () (hP.sub [3, 4, 5, 1, 0, 2] rfl) (hD.sub [3, 4, 5, 1, 0, 2] (by decide) rfl) hS h dX6_nextCritical_58
def wp_X6_nextCritical (v_all : Int32) (v_early : Nat → Int32) (v_tail : Nat → Int32) (w1_tasks : Int32) (w1_weight : Nat → Int32) (w1_after : Nat → Int64) (a2 : Int32) (post : Int32 → Prop) : Prop := vp_in a2 60 ∧ vp_in a2 60 ∧ ∀ x3_3 : Int32, x3_3 = (v_early a2.toNatClampNeg) + (w1_weight a2.toNatClampNeg) → (∃ n17 : Nat, lp_X6_nextCritical_17 v_all v_early v_tail w1_tasks w1_after a2 x3_3 post n17 0 (post (-1)))
set_option maxHeartbeats 4000000 in
set_option maxRecDepth 100000 in
theorem c_X6_nextCritical (l : Launch) (D : va_G) (cI cJ cZ cO : ClassId) (o : Nat) (o_early : Nat) (o_tail : Nat) (q1 : Nat) (q1_weight : Nat) (q1_after : Nat) (q1_before : Nat) (q1_placeOf : Nat) (q1_taskAt : Nat) (v_all : Int32) (v_early : Nat → Int32) (v_tail : Nat → Int32) (w1_tasks : Int32) (w1_ties : Int32) (w1_weight : Nat → Int32) (w1_after : Nat → Int64) (a2 : Int32) (post : Int32 → Prop) (hw : wp_X6_nextCritical v_all v_early v_tail w1_tasks w1_weight w1_after a2 post) : gb_Ci D cI cJ cZ cO l yX6_nextCritical wsX6_nextCritical ({ frames := 2, cells := 0, slots := 0, locals := 44 }) [.ref o, .ref q1, .int a2] [(o, .inr (6, [.ref o_early, .ref o_tail, .int v_all])), (o_early, .inl (cI, 60, .inl v_early)), (o_tail, .inl (cI, 60, .inl v_tail)), (q1, .inr (2, [.ref q1_weight, .ref q1_after, .ref q1_before, .ref q1_placeOf, .ref q1_taskAt, .int w1_tasks, .int w1_ties])), (q1_weight, .inl (cI, 60, .inl w1_weight)), (q1_after, .inl (cJ, 60, .inr (.inl w1_after)))] (fun (r : Int32) (_ : Unit) => post r ) (fun _ : Unit => [(o, .inr (6, [.ref o_early, .ref o_tail, .int v_all])), (o_early, .inl (cI, 60, .inl v_early)), (o_tail, .inl (cI, 60, .inl v_tail)), (q1, .inr (2, [.ref q1_weight, .ref q1_after, .ref q1_before, .ref q1_placeOf, .ref q1_taskAt, .int w1_tasks, .int w1_ties])), (q1_weight, .inl (cI, 60, .inl w1_weight)), (q1_after, .inl (cJ, 60, .inr (.inl w1_after)))]) 0 0 := by
  refine gb_mi (cc := cX6_nextCritical) (maxL := 5) (ret := (some .int)) (by decide) rfl (Nat.le_of_ble_eq_true rfl) ?_
  · intro p e s m below meth c A C hP hD hS ls hl
    obtain ⟨hx, hb, hr, hml, hown, hts, hlocks, hnm, hK, hA⟩ := id C
    replace hown : s.vm.findClass RX6 = some m.cls := hown
    have h := hw
    unfold wp_X6_nextCritical at h
    replace hl : lv_has ls 5 [(0, .ref o), (1, .ref q1), (2, .int a2)] := hl
    refine lv_aload_n hx hb dX6_nextCritical_0 rfl (lv_at hl 0 rfl) ?_
    refine va_get (D := D) (ci := 6) (v := .ref o_early) (C := RX6) (T := TX6) (N := 3) hx hb hts in_X6_nextCritical_X6 hown hK.1 hP 0 rfl rfl 0 (by decide) (hts (.fieldLink RX6 9 "OrderKeeper$Times" "early" "[I") (List.mem_of_getElem? (i := 1) rfl)) (fun _ h9 => h9) rfl dX6_nextCritical_1 ?_
    refine lv_iload_n hx hb dX6_nextCritical_4 rfl (lv_at hl 2 rfl) ?_
    obtain ⟨hi1, h⟩ := h
    refine va_iald hx hb hK.1 hP 1 0 rfl rfl hi1 dX6_nextCritical_5 ?_
    refine lv_aload_n hx hb dX6_nextCritical_6 rfl (lv_at hl 1 rfl) ?_
    refine va_get (D := D) (ci := 2) (v := .ref q1_weight) (C := RX2) (T := TX2) (N := 7) hx hb hts in_X6_nextCritical_X2 hown hK.1 hP 3 rfl rfl 0 (by decide) (hts (.fieldLink RX6 41 "OrderKeeper$Net" "weight" "[I") (List.mem_of_getElem? (i := 2) rfl)) (fun _ h9 => h9) rfl dX6_nextCritical_7 ?_
    refine lv_iload_n hx hb dX6_nextCritical_10 rfl (lv_at hl 2 rfl) ?_
    obtain ⟨hi2, h⟩ := h
    refine va_iald hx hb hK.1 hP 4 0 rfl rfl hi2 dX6_nextCritical_11 ?_
    refine lv_iadd hx hb dX6_nextCritical_12 ?_
    refine lv_topi (fun x3_3 ex3_3 => ?_)
    replace h := h x3_3 ex3_3
    refine lv_istore_n (lv' := [(3, .int x3_3), (0, .ref o), (1, .ref q1), (2, .int a2)]) hx hb dX6_nextCritical_13 rfl hl (by decide) rfl (fun ls hl => ?_)
    refine lv_iconst (v := 0) hx hb dX6_nextCritical_14 (by decide) ?_
    refine lv_istore (lv' := [(4, .int 0), (3, .int x3_3), (0, .ref o), (1, .ref q1), (2, .int a2)]) hx hb dX6_nextCritical_15 hl (by decide) rfl (fun ls hl => ?_)
    obtain ⟨n17, h⟩ := h
    refine ml_X6_nextCritical_17 o o_early o_tail q1 q1_weight q1_after q1_before q1_placeOf q1_taskAt v_all v_early v_tail w1_tasks w1_ties w1_weight w1_after a2 a2 x3_3 C post _ ?_ n17 0 _ _ (hP.sub [0, 1, 2, 3, 4, 5] rfl) (hD.sub [0, 1, 2, 3, 4, 5] (by decide) rfl) hS ls (lv_sub hl [2, 3, 4, 1, 0] rfl) h
    intro H locs hP hD hS ls hl h
    refine lv_iconst (v := (-1)) hx hb dX6_nextCritical_65 (by decide) ?_
    exact gb_reti C () (hP.sub [0, 1, 2, 3, 4, 5] rfl) (hD.sub [0, 1, 2, 3, 4, 5] (by decide) rfl) hS h dX6_nextCritical_66
