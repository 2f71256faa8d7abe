/-! OrderKeeper$Mender.line(LOrderKeeper$Net;JII)V -/
theorem in_X1_line_X1 : ∀ w ∈ wsX10, w ∈ wsX1_line := fun _ h => List.mem_cons_of_mem _ (List.mem_append_right _ h)
theorem in_X1_line_X2 : ∀ w ∈ wsX20, w ∈ wsX1_line := fun _ h => List.mem_cons_of_mem _ (List.mem_append_left _ (List.mem_append_right _ h))
theorem hdS_X1_line : yX1_line.cls ≠ "java/lang/invoke/MethodHandle" ∧ yX1_line.cls ≠ "java/lang/invoke/VarHandle" ∧ (parseMethodDescriptor yX1_line.desc).map (fun d => d.parameters.length) = some 4 := by decide +kernel
theorem hdV_X1_line : yX1_line.cls = RX1 ∧ yX1_line.cls ≠ "java/lang/invoke/MethodHandle" ∧ yX1_line.cls ≠ "java/lang/invoke/VarHandle" ∧ (parseMethodDescriptor yX1_line.desc).map (fun d => d.parameters.length) = some 4 := ⟨rfl, hdS_X1_line⟩
theorem cw_X1_line_41 {R : Room} {s : State} {args : Array Value} (hts : ∀ w ∈ wsX1_line, w.before args s = true) (hN : gb_N s) (hR : 0 + 1 ≤ R.frames ∧ 8 + (3 + 11) + 0 ≤ R.locals) : va_CN R s args RX1 41 yX7_has "OrderKeeper" cX7_has 3 (some .boolean) wsX7_has ({ frames := 0, cells := 0, slots := 0, locals := 0 }) 0 0 2 ∧ (Cond.static yX7_has).before args s = true ∧ True := ⟨va_cnB 2 hts gX1_line_X7_has_n41 rfl rfl rfl (hN.1 (RX1, 41, yX7_has, "OrderKeeper") (List.mem_of_getElem? (i := 10) rfl)) (hts (.initialized RX7) (List.mem_of_getElem? (i := 5) rfl)) hdS_X7_has hR, (hts (.static yX7_has) (List.mem_of_getElem? (i := 4) rfl)), trivial⟩
def lp_X1_line_4 (w1_taskAt : Nat → Int32) (x2 : Int64) (x5 : Int32) : Nat → (Int32) → (Nat → Int32) → (Int32) → ((Int32) → (Nat → Int32) → Prop) → Prop
  | 0, _, _, _, _ => False
  | n4 + 1, v_length, v_row, x6, kx => ((x5 < x6 → kx v_length v_row) ∧ (¬ (x5 < x6) → vp_in x6 60 ∧ wp_X7_has x2 (w1_taskAt x6.toNatClampNeg) (fun (r_3 : Int32) => ((r_3 = 0 → ∀ x6_5 : Int32, x6_5 = x6 + 1 → lp_X1_line_4 w1_taskAt x2 x5 n4 v_length v_row x6_5 kx) ∧ (¬ (r_3 = 0) → vp_in x6 60 ∧ vp_in v_length 60 ∧ ∀ v_row_8 : Nat → Int32, v_row_8 = upd v_row v_length.toNatClampNeg (w1_taskAt x6.toNatClampNeg) → ∀ v_length_9 : Int32, v_length_9 = v_length + 1 → ∀ x6_10 : Int32, x6_10 = x6 + 1 → lp_X1_line_4 w1_taskAt x2 x5 n4 v_length_9 v_row_8 x6_10 kx)))))
set_option maxHeartbeats 4000000 in
set_option maxRecDepth 100000 in
theorem ml_X1_line_4 {D : va_G} {cI cJ cZ cO : ClassId} {p : Program} {l : Launch} {e : Env} {s : State} {m : MethodId} {below : List Frame} {meth : Method} {c : Code} {A : Nat → Prop} (o : Nat) (o_row : Nat) (q1 : Nat) (q1_weight : Nat) (q1_after : Nat) (q1_before : Nat) (q1_placeOf : Nat) (q1_taskAt : Nat) (w1_tasks : Int32) (w1_ties : Int32) (w1_taskAt : Nat → Int32) (a2 : Int64) (a3 : Int32) (a4 : Int32) (x2 : Int64) (x5 : Int32) (C : gb_At D cI cJ cZ cO p s m meth c ([.ref o, .ref q1, .long a2, .int a3, .int a4] : List Value).toArray A yX1_line cX1_line none 7 wsX1_line) (post : (Int32) → (Nat → Int32) → Prop) (kx : ((Int32) → (Nat → Int32) → Prop)) (hkx : ∀ (v_length : Int32) (v_row : Nat → Int32) (H : Heap) (locs : List Loc), va_P D vwCl [(o, .inr (1, [.ref o_row, .int v_length])), (o_row, .inl (cI, 60, .inl v_row)), (q1, .inr (2, [.ref q1_weight, .ref q1_after, .ref q1_before, .ref q1_placeOf, .ref q1_taskAt, .int w1_tasks, .int w1_ties])), (q1_taskAt, .inl (cI, 60, .inl w1_taskAt))] H → va_D A [(o, .inr (1, [.ref o_row, .int v_length])), (o_row, .inl (cI, 60, .inl v_row)), (q1, .inr (2, [.ref q1_weight, .ref q1_after, .ref q1_before, .ref q1_placeOf, .ref q1_taskAt, .int w1_tasks, .int w1_ties])), (q1_taskAt, .inl (cI, 60, .inl w1_taskAt))] → va_S A s.heap H locs → ∀ ls : Array Slot, lv_has ls 7 [] → kx v_length v_row → W p l e ({ frames := 1, cells := 0, slots := 0, locals := 22 } : Room) s m ([.ref o, .ref q1, .long a2, .int a3, .int a4] : List Value).toArray below meth c H locs 0 0 (MQ below (va_Qv (fun u : (Int32) × (Nat → Int32) => post u.1 u.2) (gb_B D (fun u : (Int32) × (Nat → Int32) => [(o, .inr (1, [.ref o_row, .int u.1])), (o_row, .inl (cI, 60, .inl u.2)), (q1, .inr (2, [.ref q1_weight, .ref q1_after, .ref q1_before, .ref q1_placeOf, .ref q1_taskAt, .int w1_tasks, .int w1_ties])), (q1_taskAt, .inl (cI, 60, .inl w1_taskAt))]) A) A) ([.ref o, .ref q1, .long a2, .int a3, .int a4] : List Value).toArray s 0 0 A) (F0 m 57 ls [])) :
    ∀ (n4 : Nat) (v_length : Int32) (v_row : Nat → Int32) (x6 : Int32) (H : Heap) (locs : List Loc), va_P D vwCl [(o, .inr (1, [.ref o_row, .int v_length])), (o_row, .inl (cI, 60, .inl v_row)), (q1, .inr (2, [.ref q1_weight, .ref q1_after, .ref q1_before, .ref q1_placeOf, .ref q1_taskAt, .int w1_tasks, .int w1_ties])), (q1_taskAt, .inl (cI, 60, .inl w1_taskAt))] H → va_D A [(o, .inr (1, [.ref o_row, .int v_length])), (o_row, .inl (cI, 60, .inl v_row)), (q1, .inr (2, [.ref q1_weight, .ref q1_after, .ref q1_before, .ref q1_placeOf, .ref q1_taskAt, .int w1_tasks, .int w1_ties])), (q1_taskAt, .inl (cI, 60, .inl w1_taskAt))] → va_S A s.heap H locs → ∀ ls : Array Slot, lv_has ls 7 [(0, .ref o), (1, .ref q1), (2, .long x2), (5, .int x5), (6, .int x6)] → lp_X1_line_4 w1_taskAt x2 x5 n4 v_length v_row x6 kx → W p l e ({ frames := 1, cells := 0, slots := 0, locals := 22 } : Room) s m ([.ref o, .ref q1, .long a2, .int a3, .int a4] : List Value).toArray below meth c H locs 0 0 (MQ below (va_Qv (fun u : (Int32) × (Nat → Int32) => post u.1 u.2) (gb_B D (fun u : (Int32) × (Nat → Int32) => [(o, .inr (1, [.ref o_row, .int u.1])), (o_row, .inl (cI, 60, .inl u.2)), (q1, .inr (2, [.ref q1_weight, .ref q1_after, .ref q1_before, .ref q1_placeOf, .ref q1_taskAt, .int w1_tasks, .int w1_ties])), (q1_taskAt, .inl (cI, 60, .inl w1_taskAt))]) A) A) ([.ref o, .ref q1, .long a2, .int a3, .int a4] : List Value).toArray s 0 0 A) (F0 m 4 ls []) := by
  obtain ⟨hx, hb, hr, hml, hown, hts, hlocks, hnm, hK, hA⟩ := id C
  replace hown : s.vm.findClass RX1 = some m.cls := hown
  intro n4
  induction n4 with
  | zero => intro v_length v_row x6 H locs hP hD hS ls hl h; exact False.elim h
  | succ n4 ih =>
    intro v_length v_row x6 H locs hP hD hS ls hl h
    rw [lp_X1_line_4] at h
    refine lv_iload hx hb dX1_line_4 (lv_at hl 4 rfl) ?_
    refine lv_iload hx hb dX1_line_6 (lv_at hl 3 rfl) ?_
    refine lv_icmp_gt (tgt := 57) hx hb dX1_line_8 (by decide) (fun c1 => ?_) (fun c1 => ?_)
    · replace h := h.1 c1
      exact hkx v_length v_row _ _ (hP.sub [0, 1, 2, 3] rfl) (hD.sub [0, 1, 2, 3] (by decide) rfl) hS ls (lv_sub hl [] rfl) h
    · replace h := h.2 c1
      refine lv_lload_n hx hb dX1_line_11 rfl (lv_at hl 2 rfl) ?_
      refine lv_aload_n hx hb dX1_line_12 rfl (lv_at hl 1 rfl) ?_
      refine va_get (D := D) (ci := 2) (v := .ref q1_taskAt) (C := RX2) (T := TX2) (N := 7) hx hb hts in_X1_line_X2 hown hK.1 hP 2 rfl rfl 4 (by decide) (hts (.fieldLink RX1 38 "OrderKeeper$Net" "taskAt" "[I") (List.mem_of_getElem? (i := 1) rfl)) (fun _ h9 => h9) rfl dX1_line_13 ?_
      refine lv_iload hx hb dX1_line_16 (lv_at hl 4 rfl) ?_
      obtain ⟨hi2, h⟩ := h
      refine va_iald hx hb hK.1 hP 3 0 rfl rfl hi2 dX1_line_18 ?_
      refine gb_ki (wc := []) (wr := [(o, .inr (1, [.ref o_row, .int v_length])), (o_row, .inl (cI, 60, .inl v_row)), (q1, .inr (2, [.ref q1_weight, .ref q1_after, .ref q1_before, .ref q1_placeOf, .ref q1_taskAt, .int w1_tasks, .int w1_ties])), (q1_taskAt, .inl (cI, 60, .inl w1_taskAt))]) C hP hD hS [] [0, 1, 2, 3] rfl rfl (by decide) (gb_rSN (As := [.long x2, .int (w1_taskAt x6.toNatClampNeg)]) (rest := []) C ((c_X7_has l D cI cJ cZ cO x2 (w1_taskAt x6.toNatClampNeg) _ h) _) rfl (cw_X1_line_41 hts hK.2 ⟨Nat.le_of_ble_eq_true rfl, Nat.le_of_ble_eq_true rfl⟩) rfl hl.1 rfl (Nat.le_of_ble_eq_true rfl) dX1_line_19 ⟨Nat.zero_le _, Nat.zero_le _⟩) ?_
      rintro r_3 _ H locs h hP hD hS
      try dsimp only at h
      replace hP : va_P D vwCl [(o, .inr (1, [.ref o_row, .int v_length])), (o_row, .inl (cI, 60, .inl v_row)), (q1, .inr (2, [.ref q1_weight, .ref q1_after, .ref q1_before, .ref q1_placeOf, .ref q1_taskAt, .int w1_tasks, .int w1_ties])), (q1_taskAt, .inl (cI, 60, .inl w1_taskAt))] H := hP
      replace hD : va_D A [(o, .inr (1, [.ref o_row, .int v_length])), (o_row, .inl (cI, 60, .inl v_row)), (q1, .inr (2, [.ref q1_weight, .ref q1_after, .ref q1_before, .ref q1_placeOf, .ref q1_taskAt, .int w1_tasks, .int w1_ties])), (q1_taskAt, .inl (cI, 60, .inl w1_taskAt))] := hD
      refine lv_if_eq (tgt := 51) hx hb dX1_line_22 (by decide) (fun c4 => ?_) (fun c4 => ?_)
      · replace h := h.1 c4
        obtain ⟨x6_5, ex6_5⟩ : ∃ z : Int32, z = x6 + 1 := ⟨_, rfl⟩
        refine lv_iinc (v := x6_5) (lv' := [(6, .int x6_5), (0, .ref o), (1, .ref q1), (2, .long x2), (5, .int x5)]) hx hb dX1_line_51 hl (k := 4) rfl (by rw [ex6_5]; rfl) (by decide) rfl (fun ls hl => ?_)
        replace h := h x6_5 ex6_5
        refine lv_goto (tgt := 4) hx hb dX1_line_54 (by decide) ?_
        exact ih v_length v_row x6_5 _ _ (hP.sub [0, 1, 2, 3] rfl) (hD.sub [0, 1, 2, 3] (by decide) rfl) hS ls (lv_sub hl [1, 2, 3, 4, 0] rfl) h
      · replace h := h.2 c4
        refine lv_aload_n hx hb dX1_line_25 rfl (lv_at hl 0 rfl) ?_
        refine va_get (D := D) (ci := 1) (v := .ref o_row) (C := RX1) (T := TX1) (N := 2) hx hb hts in_X1_line_X1 hown hK.1 hP 0 rfl rfl 0 (by decide) (hts (.fieldLink RX1 9 "OrderKeeper$Mender" "row" "[I") (List.mem_of_getElem? (i := 2) rfl)) (fun _ h9 => h9) rfl dX1_line_26 ?_
        refine lv_aload_n hx hb dX1_line_29 rfl (lv_at hl 0 rfl) ?_
        refine va_get (D := D) (ci := 1) (v := .int v_length) (C := RX1) (T := TX1) (N := 2) hx hb hts in_X1_line_X1 hown hK.1 hP 0 rfl rfl 1 (by decide) (hts (.fieldLink RX1 27 "OrderKeeper$Mender" "length" "I") (List.mem_of_getElem? (i := 3) rfl)) (fun _ h9 => h9) rfl dX1_line_30 ?_
        refine lv_aload_n hx hb dX1_line_33 rfl (lv_at hl 1 rfl) ?_
        refine va_get (D := D) (ci := 2) (v := .ref q1_taskAt) (C := RX2) (T := TX2) (N := 7) hx hb hts in_X1_line_X2 hown hK.1 hP 2 rfl rfl 4 (by decide) (hts (.fieldLink RX1 38 "OrderKeeper$Net" "taskAt" "[I") (List.mem_of_getElem? (i := 1) rfl)) (fun _ h9 => h9) rfl dX1_line_34 ?_
        refine lv_iload hx hb dX1_line_37 (lv_at hl 4 rfl) ?_
        obtain ⟨hi6, h⟩ := h
        refine va_iald hx hb hK.1 hP 3 0 rfl rfl hi6 dX1_line_39 ?_
        obtain ⟨hi7, h⟩ := h
        obtain ⟨v_row_8, ev_row_8⟩ : ∃ z : Nat → Int32, z = upd v_row v_length.toNatClampNeg (w1_taskAt x6.toNatClampNeg) := ⟨_, rfl⟩
        refine va_iast hx hb hK.1 hP hD hS 1 0 rfl rfl hi7 dX1_line_40 (fun H locs hP hD hS => ?_)
        replace hP : va_P D vwCl [(o, .inr (1, [.ref o_row, .int v_length])), (o_row, .inl (cI, 60, .inl v_row_8)), (q1, .inr (2, [.ref q1_weight, .ref q1_after, .ref q1_before, .ref q1_placeOf, .ref q1_taskAt, .int w1_tasks, .int w1_ties])), (q1_taskAt, .inl (cI, 60, .inl w1_taskAt))] H := by rw [ev_row_8]; exact hP
        replace hD : va_D A [(o, .inr (1, [.ref o_row, .int v_length])), (o_row, .inl (cI, 60, .inl v_row_8)), (q1, .inr (2, [.ref q1_weight, .ref q1_after, .ref q1_before, .ref q1_placeOf, .ref q1_taskAt, .int w1_tasks, .int w1_ties])), (q1_taskAt, .inl (cI, 60, .inl w1_taskAt))] := by rw [ev_row_8]; exact hD
        replace h := h v_row_8 ev_row_8
        refine lv_aload_n hx hb dX1_line_41 rfl (lv_at hl 0 rfl) ?_
        refine lv_dup hx hb dX1_line_42 rfl ?_
        refine va_get (D := D) (ci := 1) (v := .int v_length) (C := RX1) (T := TX1) (N := 2) hx hb hts in_X1_line_X1 hown hK.1 hP 0 rfl rfl 1 (by decide) (hts (.fieldLink RX1 27 "OrderKeeper$Mender" "length" "I") (List.mem_of_getElem? (i := 3) rfl)) (fun _ h9 => h9) rfl dX1_line_43 ?_
        refine lv_iconst (v := 1) hx hb dX1_line_46 (by decide) ?_
        refine lv_iadd hx hb dX1_line_47 ?_
        refine lv_topi (fun v_length_9 ev_length_9 => ?_)
        replace h := h v_length_9 ev_length_9
        refine va_put (D := D) (ci := 1) (v := .int v_length_9) (ty := .int) (C := RX1) (T := TX1) (N := 2) hx hb hts in_X1_line_X1 tyX1 tyX1_ok nmX1 hown hK.1 hP hD hS 0 rfl rfl 1 (by decide) (hts (.fieldLink RX1 27 "OrderKeeper$Mender" "length" "I") (List.mem_of_getElem? (i := 3) rfl)) (fun _ h9 => h9) rfl (tyX1_ok 1 (by decide)) rfl rfl (Nat.le_of_ble_eq_true rfl) dX1_line_48 (fun H locs hP hD hS => ?_)
        replace hP : va_P D vwCl [(o, .inr (1, [.ref o_row, .int v_length_9])), (o_row, .inl (cI, 60, .inl v_row_8)), (q1, .inr (2, [.ref q1_weight, .ref q1_after, .ref q1_before, .ref q1_placeOf, .ref q1_taskAt, .int w1_tasks, .int w1_ties])), (q1_taskAt, .inl (cI, 60, .inl w1_taskAt))] H := hP
        replace hD : va_D A [(o, .inr (1, [.ref o_row, .int v_length_9])), (o_row, .inl (cI, 60, .inl v_row_8)), (q1, .inr (2, [.ref q1_weight, .ref q1_after, .ref q1_before, .ref q1_placeOf, .ref q1_taskAt, .int w1_tasks, .int w1_ties])), (q1_taskAt, .inl (cI, 60, .inl w1_taskAt))] := hD
        obtain ⟨x6_10, ex6_10⟩ : ∃ z : Int32, z = x6 + 1 := ⟨_, rfl⟩
        refine lv_iinc (v := x6_10) (lv' := [(6, .int x6_10), (0, .ref o), (1, .ref q1), (2, .long x2), (5, .int x5)]) hx hb dX1_line_51 hl (k := 4) rfl (by rw [ex6_10]; rfl) (by decide) rfl (fun ls hl => ?_)
        replace h := h x6_10 ex6_10
        refine lv_goto (tgt := 4) hx hb dX1_line_54 (by decide) ?_
        exact ih v_length_9 v_row_8 x6_10 _ _ (hP.sub [0, 1, 2, 3] rfl) (hD.sub [0, 1, 2, 3] (by decide) rfl) hS ls (lv_sub hl [1, 2, 3, 4, 0] rfl) h
def wp_X1_line (v_length : Int32) (v_row : Nat → Int32) (w1_taskAt : Nat → Int32) (a2 : Int64) (a3 : Int32) (a4 : Int32) (post : (Int32) → (Nat → Int32) → Prop) : Prop := (∃ n4 : Nat, lp_X1_line_4 w1_taskAt a2 a4 n4 v_length v_row a3 (fun (v_length_11 : Int32) (v_row_12 : Nat → Int32) => post v_length_11 v_row_12))
set_option maxHeartbeats 4000000 in
set_option maxRecDepth 100000 in
theorem c_X1_line (l : Launch) (D : va_G) (cI cJ cZ cO : ClassId) (o : Nat) (o_row : Nat) (q1 : Nat) (q1_weight : Nat) (q1_after : Nat) (q1_before : Nat) (q1_placeOf : Nat) (q1_taskAt : Nat) (v_length : Int32) (v_row : Nat → Int32) (w1_tasks : Int32) (w1_ties : Int32) (w1_taskAt : Nat → Int32) (a2 : Int64) (a3 : Int32) (a4 : Int32) (post : (Int32) → (Nat → Int32) → Prop) (hw : wp_X1_line v_length v_row w1_taskAt a2 a3 a4 post) : gb_Cv D cI cJ cZ cO l yX1_line wsX1_line ({ frames := 1, cells := 0, slots := 0, locals := 22 }) [.ref o, .ref q1, .long a2, .int a3, .int a4] [(o, .inr (1, [.ref o_row, .int v_length])), (o_row, .inl (cI, 60, .inl v_row)), (q1, .inr (2, [.ref q1_weight, .ref q1_after, .ref q1_before, .ref q1_placeOf, .ref q1_taskAt, .int w1_tasks, .int w1_ties])), (q1_taskAt, .inl (cI, 60, .inl w1_taskAt))] (fun u : (Int32) × (Nat → Int32) => post u.1 u.2) (fun u : (Int32) × (Nat → Int32) => [(o, .inr (1, [.ref o_row, .int u.1])), (o_row, .inl (cI, 60, .inl u.2)), (q1, .inr (2, [.ref q1_weight, .ref q1_after, .ref q1_before, .ref q1_placeOf, .ref q1_taskAt, .int w1_tasks, .int w1_ties])), (q1_taskAt, .inl (cI, 60, .inl w1_taskAt))]) 0 0 := by
  refine gb_mv (cc := cX1_line) (maxL := 7) (ret := none) (by decide) rfl (Nat.le_of_ble_eq_true rfl) ?_
  · intro p e s m below meth c A C hP hD hS ls hl
    obtain ⟨hx, hb, hr, hml, hown, hts, hlocks, hnm, hK, hA⟩ := id C
    replace hown : s.vm.findClass RX1 = some m.cls := hown
    have h := hw
    unfold wp_X1_line at h
    replace hl : lv_has ls 7 [(0, .ref o), (1, .ref q1), (2, .long a2), (4, .int a3), (5, .int a4)] := hl
    refine lv_iload hx hb dX1_line_0 (lv_at hl 3 rfl) ?_
    refine lv_istore (lv' := [(6, .int a3), (0, .ref o), (1, .ref q1), (2, .long a2), (4, .int a3), (5, .int a4)]) hx hb dX1_line_2 hl (by decide) rfl (fun ls hl => ?_)
    obtain ⟨n4, h⟩ := h
    refine ml_X1_line_4 o o_row q1 q1_weight q1_after q1_before q1_placeOf q1_taskAt w1_tasks w1_ties w1_taskAt a2 a3 a4 a2 a4 C post _ ?_ n4 v_length v_row a3 _ _ (hP.sub [0, 1, 2, 3] rfl) (hD.sub [0, 1, 2, 3] (by decide) rfl) hS ls (lv_sub hl [1, 2, 3, 5, 0] rfl) h
    intro v_length_11 v_row_12 H locs hP hD hS ls hl h
    exact gb_retv C (v_length_11, v_row_12) (hP.sub [0, 1, 2, 3] rfl) (hD.sub [0, 1, 2, 3] (by decide) rfl) hS h dX1_line_57
/-! OrderKeeper$Mender.deal(LOrderKeeper$Net;JII)V -/
theorem in_X1_deal_X1 : ∀ w ∈ wsX10, w ∈ wsX1_deal := fun _ h => List.mem_cons_of_mem _ (List.mem_append_left _ (List.mem_append_right _ h))
theorem in_X1_deal_X2 : ∀ w ∈ wsX20, w ∈ wsX1_deal := fun _ h => List.mem_cons_of_mem _ (List.mem_append_right _ h)
theorem hdS_X1_deal : yX1_deal.cls ≠ "java/lang/invoke/MethodHandle" ∧ yX1_deal.cls ≠ "java/lang/invoke/VarHandle" ∧ (parseMethodDescriptor yX1_deal.desc).map (fun d => d.parameters.length) = some 4 := by decide +kernel
theorem hdV_X1_deal : yX1_deal.cls = RX1 ∧ yX1_deal.cls ≠ "java/lang/invoke/MethodHandle" ∧ yX1_deal.cls ≠ "java/lang/invoke/VarHandle" ∧ (parseMethodDescriptor yX1_deal.desc).map (fun d => d.parameters.length) = some 4 := ⟨rfl, hdS_X1_deal⟩
theorem cw_X1_deal_41 {R : Room} {s : State} {args : Array Value} (hts : ∀ w ∈ wsX1_deal, w.before args s = true) (hN : gb_N s) (hR : 0 + 1 ≤ R.frames ∧ 8 + (3 + 11) + 0 ≤ R.locals) : va_CN R s args RX1 41 yX7_has "OrderKeeper" cX7_has 3 (some .boolean) wsX7_has ({ frames := 0, cells := 0, slots := 0, locals := 0 }) 0 0 2 ∧ (Cond.static yX7_has).before args s = true ∧ True := ⟨va_cnB 2 hts gX1_deal_X7_has_n41 rfl rfl rfl (hN.1 (RX1, 41, yX7_has, "OrderKeeper") (List.mem_of_getElem? (i := 10) rfl)) (hts (.initialized RX7) (List.mem_of_getElem? (i := 6) rfl)) hdS_X7_has hR, (hts (.static yX7_has) (List.mem_of_getElem? (i := 5) rfl)), trivial⟩
def lp_X1_deal_7 (v_length : Int32) (v_row : Nat → Int32) (x2 : Int64) (x5 : Int32) : Nat → (Nat → Int32) → (Nat → Int32) → (Int32) → (Int32) → ((Nat → Int32) → (Nat → Int32) → Prop) → Prop
  | 0, _, _, _, _, _ => False
  | n7 + 1, w1_placeOf, w1_taskAt, x6, x7, kx => ((x5 < x7 → kx w1_placeOf w1_taskAt) ∧ (¬ (x5 < x7) → ((v_length ≤ x6 → kx w1_placeOf w1_taskAt) ∧ (¬ (v_length ≤ x6) → vp_in x7 60 ∧ wp_X7_has x2 (w1_taskAt x7.toNatClampNeg) (fun (r_4 : Int32) => ((r_4 = 0 → ∀ x7_6 : Int32, x7_6 = x7 + 1 → lp_X1_deal_7 v_length v_row x2 x5 n7 w1_placeOf w1_taskAt x6 x7_6 kx) ∧ (¬ (r_4 = 0) → vp_in x6 60 ∧ ∀ x8_8 : Int32, x8_8 = v_row x6.toNatClampNeg → vp_in x7 60 ∧ ∀ w1_taskAt_10 : Nat → Int32, w1_taskAt_10 = upd w1_taskAt x7.toNatClampNeg x8_8 → vp_in x8_8 60 ∧ ∀ w1_placeOf_12 : Nat → Int32, w1_placeOf_12 = upd w1_placeOf x8_8.toNatClampNeg x7 → ∀ x6_13 : Int32, x6_13 = x6 + 1 → ∀ x7_14 : Int32, x7_14 = x7 + 1 → lp_X1_deal_7 v_length v_row x2 x5 n7 w1_placeOf_12 w1_taskAt_10 x6_13 x7_14 kx)))))))
set_option maxHeartbeats 4000000 in
set_option maxRecDepth 100000 in
theorem ml_X1_deal_7 {D : va_G} {cI cJ cZ cO : ClassId} {p : Program} {l : Launch} {e : Env} {s : State} {m : MethodId} {below : List Frame} {meth : Method} {c : Code} {A : Nat → Prop} (o : Nat) (o_row : Nat) (q1 : Nat) (q1_weight : Nat) (q1_after : Nat) (q1_before : Nat) (q1_placeOf : Nat) (q1_taskAt : Nat) (v_length : Int32) (v_row : Nat → Int32) (w1_tasks : Int32) (w1_ties : Int32) (a2 : Int64) (a3 : Int32) (a4 : Int32) (x2 : Int64) (x5 : Int32) (C : gb_At D cI cJ cZ cO p s m meth c ([.ref o, .ref q1, .long a2, .int a3, .int a4] : List Value).toArray A yX1_deal cX1_deal none 9 wsX1_deal) (post : (Nat → Int32) → (Nat → Int32) → Prop) (kx : ((Nat → Int32) → (Nat → Int32) → Prop)) (hkx : ∀ (w1_placeOf : Nat → Int32) (w1_taskAt : Nat → Int32) (H : Heap) (locs : List Loc), va_P D vwCl [(o, .inr (1, [.ref o_row, .int v_length])), (o_row, .inl (cI, 60, .inl v_row)), (q1, .inr (2, [.ref q1_weight, .ref q1_after, .ref q1_before, .ref q1_placeOf, .ref q1_taskAt, .int w1_tasks, .int w1_ties])), (q1_placeOf, .inl (cI, 60, .inl w1_placeOf)), (q1_taskAt, .inl (cI, 60, .inl w1_taskAt))] H → va_D A [(o, .inr (1, [.ref o_row, .int v_length])), (o_row, .inl (cI, 60, .inl v_row)), (q1, .inr (2, [.ref q1_weight, .ref q1_after, .ref q1_before, .ref q1_placeOf, .ref q1_taskAt, .int w1_tasks, .int w1_ties])), (q1_placeOf, .inl (cI, 60, .inl w1_placeOf)), (q1_taskAt, .inl (cI, 60, .inl w1_taskAt))] → va_S A s.heap H locs → ∀ ls : Array Slot, lv_has ls 9 [] → kx w1_placeOf w1_taskAt → W p l e ({ frames := 1, cells := 0, slots := 0, locals := 22 } : Room) s m ([.ref o, .ref q1, .long a2, .int a3, .int a4] : List Value).toArray below meth c H locs 0 0 (MQ below (va_Qv (fun u : (Nat → Int32) × (Nat → Int32) => post u.1 u.2) (gb_B D (fun u : (Nat → Int32) × (Nat → Int32) => [(o, .inr (1, [.ref o_row, .int v_length])), (o_row, .inl (cI, 60, .inl v_row)), (q1, .inr (2, [.ref q1_weight, .ref q1_after, .ref q1_before, .ref q1_placeOf, .ref q1_taskAt, .int w1_tasks, .int w1_ties])), (q1_placeOf, .inl (cI, 60, .inl u.1)), (q1_taskAt, .inl (cI, 60, .inl u.2))]) A) A) ([.ref o, .ref q1, .long a2, .int a3, .int a4] : List Value).toArray s 0 0 A) (F0 m 73 ls [])) :
    ∀ (n7 : Nat) (w1_placeOf : Nat → Int32) (w1_taskAt : Nat → Int32) (x6 : Int32) (x7 : Int32) (H : Heap) (locs : List Loc), va_P D vwCl [(o, .inr (1, [.ref o_row, .int v_length])), (o_row, .inl (cI, 60, .inl v_row)), (q1, .inr (2, [.ref q1_weight, .ref q1_after, .ref q1_before, .ref q1_placeOf, .ref q1_taskAt, .int w1_tasks, .int w1_ties])), (q1_placeOf, .inl (cI, 60, .inl w1_placeOf)), (q1_taskAt, .inl (cI, 60, .inl w1_taskAt))] H → va_D A [(o, .inr (1, [.ref o_row, .int v_length])), (o_row, .inl (cI, 60, .inl v_row)), (q1, .inr (2, [.ref q1_weight, .ref q1_after, .ref q1_before, .ref q1_placeOf, .ref q1_taskAt, .int w1_tasks, .int w1_ties])), (q1_placeOf, .inl (cI, 60, .inl w1_placeOf)), (q1_taskAt, .inl (cI, 60, .inl w1_taskAt))] → va_S A s.heap H locs → ∀ ls : Array Slot, lv_has ls 9 [(0, .ref o), (1, .ref q1), (2, .long x2), (5, .int x5), (6, .int x6), (7, .int x7)] → lp_X1_deal_7 v_length v_row x2 x5 n7 w1_placeOf w1_taskAt x6 x7 kx → W p l e ({ frames := 1, cells := 0, slots := 0, locals := 22 } : Room) s m ([.ref o, .ref q1, .long a2, .int a3, .int a4] : List Value).toArray below meth c H locs 0 0 (MQ below (va_Qv (fun u : (Nat → Int32) × (Nat → Int32) => post u.1 u.2) (gb_B D (fun u : (Nat → Int32) × (Nat → Int32) => [(o, .inr (1, [.ref o_row, .int v_length])), (o_row, .inl (cI, 60, .inl v_row)), (q1, .inr (2, [.ref q1_weight, .ref q1_after, .ref q1_before, .ref q1_placeOf, .ref q1_taskAt, .int w1_tasks, .int w1_ties])), (q1_placeOf, .inl (cI, 60, .inl u.1)), (q1_taskAt, .inl (cI, 60, .inl u.2))]) A) A) ([.ref o, .ref q1, .long a2, .int a3, .int a4] : List Value).toArray s 0 0 A) (F0 m 7 ls []) := by
  obtain ⟨hx, hb, hr, hml, hown, hts, hlocks, hnm, hK, hA⟩ := id C
  replace hown : s.vm.findClass RX1 = some m.cls := hown
  intro n7
  induction n7 with
  | zero => intro w1_placeOf w1_taskAt x6 x7 H locs hP hD hS ls hl h; exact False.elim h
  | succ n7 ih =>
    intro w1_placeOf w1_taskAt x6 x7 H locs hP hD hS ls hl h
    rw [lp_X1_deal_7] at h
    refine lv_iload hx hb dX1_deal_7 (lv_at hl 5 rfl) ?_
    refine lv_iload hx hb dX1_deal_9 (lv_at hl 3 rfl) ?_
    refine lv_icmp_gt (tgt := 73) hx hb dX1_deal_11 (by decide) (fun c1 => ?_) (fun c1 => ?_)
    · replace h := h.1 c1
      exact hkx w1_placeOf w1_taskAt _ _ (hP.sub [0, 1, 2, 3, 4] rfl) (hD.sub [0, 1, 2, 3, 4] (by decide) rfl) hS ls (lv_sub hl [] rfl) h
    · replace h := h.2 c1
      refine lv_iload hx hb dX1_deal_14 (lv_at hl 4 rfl) ?_
      refine lv_aload_n hx hb dX1_deal_16 rfl (lv_at hl 0 rfl) ?_
      refine va_get (D := D) (ci := 1) (v := .int v_length) (C := RX1) (T := TX1) (N := 2) hx hb hts in_X1_deal_X1 hown hK.1 hP 0 rfl rfl 1 (by decide) (hts (.fieldLink RX1 27 "OrderKeeper$Mender" "length" "I") (List.mem_of_getElem? (i := 1) rfl)) (fun _ h9 => h9) rfl dX1_deal_17 ?_
      refine lv_icmp_ge (tgt := 73) hx hb dX1_deal_20 (by decide) (fun c2 => ?_) (fun c2 => ?_)
      · replace h := h.1 c2
        exact hkx w1_placeOf w1_taskAt _ _ (hP.sub [0, 1, 2, 3, 4] rfl) (hD.sub [0, 1, 2, 3, 4] (by decide) rfl) hS ls (lv_sub hl [] rfl) h
      · replace h := h.2 c2
        refine lv_lload_n hx hb dX1_deal_23 rfl (lv_at hl 2 rfl) ?_
        refine lv_aload_n hx hb dX1_deal_24 rfl (lv_at hl 1 rfl) ?_
        refine va_get (D := D) (ci := 2) (v := .ref q1_taskAt) (C := RX2) (T := TX2) (N := 7) hx hb hts in_X1_deal_X2 hown hK.1 hP 2 rfl rfl 4 (by decide) (hts (.fieldLink RX1 38 "OrderKeeper$Net" "taskAt" "[I") (List.mem_of_getElem? (i := 2) rfl)) (fun _ h9 => h9) rfl dX1_deal_25 ?_
        refine lv_iload hx hb dX1_deal_28 (lv_at hl 5 rfl) ?_
        obtain ⟨hi3, h⟩ := h
        refine va_iald hx hb hK.1 hP 4 0 rfl rfl hi3 dX1_deal_30 ?_
        refine gb_ki (wc := []) (wr := [(o, .inr (1, [.ref o_row, .int v_length])), (o_row, .inl (cI, 60, .inl v_row)), (q1, .inr (2, [.ref q1_weight, .ref q1_after, .ref q1_before, .ref q1_placeOf, .ref q1_taskAt, .int w1_tasks, .int w1_ties])), (q1_placeOf, .inl (cI, 60, .inl w1_placeOf)), (q1_taskAt, .inl (cI, 60, .inl w1_taskAt))]) C hP hD hS [] [0, 1, 2, 3, 4] rfl rfl (by decide) (gb_rSN (As := [.long x2, .int (w1_taskAt x7.toNatClampNeg)]) (rest := []) C ((c_X7_has l D cI cJ cZ cO x2 (w1_taskAt x7.toNatClampNeg) _ h) _) rfl (cw_X1_deal_41 hts hK.2 ⟨Nat.le_of_ble_eq_true rfl, Nat.le_of_ble_eq_true rfl⟩) rfl hl.1 rfl (Nat.le_of_ble_eq_true rfl) dX1_deal_31 ⟨Nat.zero_le _, Nat.zero_le _⟩) ?_
        rintro r_4 _ H locs h hP hD hS
        try dsimp only at h
        replace hP : va_P D vwCl [(o, .inr (1, [.ref o_row, .int v_length])), (o_row, .inl (cI, 60, .inl v_row)), (q1, .inr (2, [.ref q1_weight, .ref q1_after, .ref q1_before, .ref q1_placeOf, .ref q1_taskAt, .int w1_tasks, .int w1_ties])), (q1_placeOf, .inl (cI, 60, .inl w1_placeOf)), (q1_taskAt, .inl (cI, 60, .inl w1_taskAt))] H := hP
        replace hD : va_D A [(o, .inr (1, [.ref o_row, .int v_length])), (o_row, .inl (cI, 60, .inl v_row)), (q1, .inr (2, [.ref q1_weight, .ref q1_after, .ref q1_before, .ref q1_placeOf, .ref q1_taskAt, .int w1_tasks, .int w1_ties])), (q1_placeOf, .inl (cI, 60, .inl w1_placeOf)), (q1_taskAt, .inl (cI, 60, .inl w1_taskAt))] := hD
        refine lv_if_eq (tgt := 67) hx hb dX1_deal_34 (by decide) (fun c5 => ?_) (fun c5 => ?_)
        · replace h := h.1 c5
          obtain ⟨x7_6, ex7_6⟩ : ∃ z : Int32, z = x7 + 1 := ⟨_, rfl⟩
          refine lv_iinc (v := x7_6) (lv' := [(7, .int x7_6), (0, .ref o), (1, .ref q1), (2, .long x2), (5, .int x5), (6, .int x6)]) hx hb dX1_deal_67 hl (k := 5) rfl (by rw [ex7_6]; rfl) (by decide) rfl (fun ls hl => ?_)
          replace h := h x7_6 ex7_6
          refine lv_goto (tgt := 7) hx hb dX1_deal_70 (by decide) ?_
          exact ih w1_placeOf w1_taskAt x6 x7_6 _ _ (hP.sub [0, 1, 2, 3, 4] rfl) (hD.sub [0, 1, 2, 3, 4] (by decide) rfl) hS ls (lv_sub hl [1, 2, 3, 4, 5, 0] rfl) h
        · replace h := h.2 c5
          refine lv_aload_n hx hb dX1_deal_37 rfl (lv_at hl 0 rfl) ?_
          refine va_get (D := D) (ci := 1) (v := .ref o_row) (C := RX1) (T := TX1) (N := 2) hx hb hts in_X1_deal_X1 hown hK.1 hP 0 rfl rfl 0 (by decide) (hts (.fieldLink RX1 9 "OrderKeeper$Mender" "row" "[I") (List.mem_of_getElem? (i := 3) rfl)) (fun _ h9 => h9) rfl dX1_deal_38 ?_
          refine lv_iload hx hb dX1_deal_41 (lv_at hl 4 rfl) ?_
          obtain ⟨hi7, h⟩ := h
          refine va_iald hx hb hK.1 hP 1 0 rfl rfl hi7 dX1_deal_43 ?_
          refine lv_topi (fun x8_8 ex8_8 => ?_)
          replace h := h x8_8 ex8_8
          refine lv_istore (lv' := [(8, .int x8_8), (0, .ref o), (1, .ref q1), (2, .long x2), (5, .int x5), (6, .int x6), (7, .int x7)]) hx hb dX1_deal_44 hl (by decide) rfl (fun ls hl => ?_)
          refine lv_aload_n hx hb dX1_deal_46 rfl (lv_at hl 2 rfl) ?_
          refine va_get (D := D) (ci := 2) (v := .ref q1_taskAt) (C := RX2) (T := TX2) (N := 7) hx hb hts in_X1_deal_X2 hown hK.1 hP 2 rfl rfl 4 (by decide) (hts (.fieldLink RX1 38 "OrderKeeper$Net" "taskAt" "[I") (List.mem_of_getElem? (i := 2) rfl)) (fun _ h9 => h9) rfl dX1_deal_47 ?_
          refine lv_iload hx hb dX1_deal_50 (lv_at hl 6 rfl) ?_
          refine lv_iload hx hb dX1_deal_52 (lv_at hl 0 rfl) ?_
          obtain ⟨hi9, h⟩ := h
          obtain ⟨w1_taskAt_10, ew1_taskAt_10⟩ : ∃ z : Nat → Int32, z = upd w1_taskAt x7.toNatClampNeg x8_8 := ⟨_, rfl⟩
          refine va_iast hx hb hK.1 hP hD hS 4 0 rfl rfl hi9 dX1_deal_54 (fun H locs hP hD hS => ?_)
          replace hP : va_P D vwCl [(o, .inr (1, [.ref o_row, .int v_length])), (o_row, .inl (cI, 60, .inl v_row)), (q1, .inr (2, [.ref q1_weight, .ref q1_after, .ref q1_before, .ref q1_placeOf, .ref q1_taskAt, .int w1_tasks, .int w1_ties])), (q1_placeOf, .inl (cI, 60, .inl w1_placeOf)), (q1_taskAt, .inl (cI, 60, .inl w1_taskAt_10))] H := by rw [ew1_taskAt_10]; exact hP
          replace hD : va_D A [(o, .inr (1, [.ref o_row, .int v_length])), (o_row, .inl (cI, 60, .inl v_row)), (q1, .inr (2, [.ref q1_weight, .ref q1_after, .ref q1_before, .ref q1_placeOf, .ref q1_taskAt, .int w1_tasks, .int w1_ties])), (q1_placeOf, .inl (cI, 60, .inl w1_placeOf)), (q1_taskAt, .inl (cI, 60, .inl w1_taskAt_10))] := by rw [ew1_taskAt_10]; exact hD
          replace h := h w1_taskAt_10 ew1_taskAt_10
          refine lv_aload_n hx hb dX1_deal_55 rfl (lv_at hl 2 rfl) ?_
          refine va_get (D := D) (ci := 2) (v := .ref q1_placeOf) (C := RX2) (T := TX2) (N := 7) hx hb hts in_X1_deal_X2 hown hK.1 hP 2 rfl rfl 3 (by decide) (hts (.fieldLink RX1 15 "OrderKeeper$Net" "placeOf" "[I") (List.mem_of_getElem? (i := 4) rfl)) (fun _ h9 => h9) rfl dX1_deal_56 ?_
          refine lv_iload hx hb dX1_deal_59 (lv_at hl 0 rfl) ?_
          refine lv_iload hx hb dX1_deal_61 (lv_at hl 6 rfl) ?_
          obtain ⟨hi11, h⟩ := h
          obtain ⟨w1_placeOf_12, ew1_placeOf_12⟩ : ∃ z : Nat → Int32, z = upd w1_placeOf x8_8.toNatClampNeg x7 := ⟨_, rfl⟩
          refine va_iast hx hb hK.1 hP hD hS 3 0 rfl rfl hi11 dX1_deal_63 (fun H locs hP hD hS => ?_)
          replace hP : va_P D vwCl [(o, .inr (1, [.ref o_row, .int v_length])), (o_row, .inl (cI, 60, .inl v_row)), (q1, .inr (2, [.ref q1_weight, .ref q1_after, .ref q1_before, .ref q1_placeOf, .ref q1_taskAt, .int w1_tasks, .int w1_ties])), (q1_placeOf, .inl (cI, 60, .inl w1_placeOf_12)), (q1_taskAt, .inl (cI, 60, .inl w1_taskAt_10))] H := by rw [ew1_placeOf_12]; exact hP
          replace hD : va_D A [(o, .inr (1, [.ref o_row, .int v_length])), (o_row, .inl (cI, 60, .inl v_row)), (q1, .inr (2, [.ref q1_weight, .ref q1_after, .ref q1_before, .ref q1_placeOf, .ref q1_taskAt, .int w1_tasks, .int w1_ties])), (q1_placeOf, .inl (cI, 60, .inl w1_placeOf_12)), (q1_taskAt, .inl (cI, 60, .inl w1_taskAt_10))] := by rw [ew1_placeOf_12]; exact hD
          replace h := h w1_placeOf_12 ew1_placeOf_12
          obtain ⟨x6_13, ex6_13⟩ : ∃ z : Int32, z = x6 + 1 := ⟨_, rfl⟩
          refine lv_iinc (v := x6_13) (lv' := [(6, .int x6_13), (8, .int x8_8), (0, .ref o), (1, .ref q1), (2, .long x2), (5, .int x5), (7, .int x7)]) hx hb dX1_deal_64 hl (k := 5) rfl (by rw [ex6_13]; rfl) (by decide) rfl (fun ls hl => ?_)
          replace h := h x6_13 ex6_13
          obtain ⟨x7_14, ex7_14⟩ : ∃ z : Int32, z = x7 + 1 := ⟨_, rfl⟩
          refine lv_iinc (v := x7_14) (lv' := [(7, .int x7_14), (6, .int x6_13), (8, .int x8_8), (0, .ref o), (1, .ref q1), (2, .long x2), (5, .int x5)]) hx hb dX1_deal_67 hl (k := 6) rfl (by rw [ex7_14]; rfl) (by decide) rfl (fun ls hl => ?_)
          replace h := h x7_14 ex7_14
          refine lv_goto (tgt := 7) hx hb dX1_deal_70 (by decide) ?_
          exact ih w1_placeOf_12 w1_taskAt_10 x6_13 x7_14 _ _ (hP.sub [0, 1, 2, 3, 4] rfl) (hD.sub [0, 1, 2, 3, 4] (by decide) rfl) hS ls (lv_sub hl [3, 4, 5, 6, 1, 0] rfl) h
def wp_X1_deal (v_length : Int32) (v_row : Nat → Int32) (w1_placeOf : Nat → Int32) (w1_taskAt : Nat → Int32) (a2 : Int64) (a3 : Int32) (a4 : Int32) (post : (Nat → Int32) → (Nat → Int32) → Prop) : Prop := (∃ n7 : Nat, lp_X1_deal_7 v_length v_row a2 a4 n7 w1_placeOf w1_taskAt 0 a3 (fun (w1_placeOf_15 : Nat → Int32) (w1_taskAt_16 : Nat → Int32) => post w1_placeOf_15 w1_taskAt_16))
set_option maxHeartbeats 4000000 in
set_option maxRecDepth 100000 in
theorem c_X1_deal (l : Launch) (D : va_G) (cI cJ cZ cO : ClassId) (o : Nat) (o_row : Nat) (q1 : Nat) (q1_weight : Nat) (q1_after : Nat) (q1_before : Nat) (q1_placeOf : Nat) (q1_taskAt : Nat) (v_length : Int32) (v_row : Nat → Int32) (w1_tasks : Int32) (w1_ties : Int32) (w1_placeOf : Nat → Int32) (w1_taskAt : Nat → Int32) (a2 : Int64) (a3 : Int32) (a4 : Int32) (post : (Nat → Int32) → (Nat → Int32) → Prop) (hw : wp_X1_deal v_length v_row w1_placeOf w1_taskAt a2 a3 a4 post) : gb_Cv D cI cJ cZ cO l yX1_deal wsX1_deal ({ frames := 1, cells := 0, slots := 0, locals := 22 }) [.ref o, .ref q1, .long a2, .int a3, .int a4] [(o, .inr (1, [.ref o_row, .int v_length])), (o_row, .inl (cI, 60, .inl v_row)), (q1, .inr (2, [.ref q1_weight, .ref q1_after, .ref q1_before, .ref q1_placeOf, .ref q1_taskAt, .int w1_tasks, .int w1_ties])), (q1_placeOf, .inl (cI, 60, .inl w1_placeOf)), (q1_taskAt, .inl (cI, 60, .inl w1_taskAt))] (fun u : (Nat → Int32) × (Nat → Int32) => post u.1 u.2) (fun u : (Nat → Int32) × (Nat → Int32) => [(o, .inr (1, [.ref o_row, .int v_length])), (o_row, .inl (cI, 60, .inl v_row)), (q1, .inr (2, [.ref q1_weight, .ref q1_after, .ref q1_before, .ref q1_placeOf, .ref q1_taskAt, .int w1_tasks, .int w1_ties])), (q1_placeOf, .inl (cI, 60, .inl u.1)), (q1_taskAt, .inl (cI, 60, .inl u.2))]) 0 0 := by
  refine gb_mv (cc := cX1_deal) (maxL := 9) (ret := none) (by decide) rfl (Nat.le_of_ble_eq_true rfl) ?_
  · intro p e s m below meth c A C hP hD hS ls hl
    obtain ⟨hx, hb, hr, hml, hown, hts, hlocks, hnm, hK, hA⟩ := id C
    replace hown : s.vm.findClass RX1 = some m.cls := hown
    have h := hw
    unfold wp_X1_deal at h
    replace hl : lv_has ls 9 [(0, .ref o), (1, .ref q1), (2, .long a2), (4, .int a3), (5, .int a4)] := hl
    refine lv_iconst (v := 0) hx hb dX1_deal_0 (by decide) ?_
    refine lv_istore (lv' := [(6, .int 0), (0, .ref o), (1, .ref q1), (2, .long a2), (4, .int a3), (5, .int a4)]) hx hb dX1_deal_1 hl (by decide) rfl (fun ls hl => ?_)
    refine lv_iload hx hb dX1_deal_3 (lv_at hl 4 rfl) ?_
    refine lv_istore (lv' := [(7, .int a3), (6, .int 0), (0, .ref o), (1, .ref q1), (2, .long a2), (4, .int a3), (5, .int a4)]) hx hb dX1_deal_5 hl (by decide) rfl (fun ls hl => ?_)
    obtain ⟨n7, h⟩ := h
    refine ml_X1_deal_7 o o_row q1 q1_weight q1_after q1_before q1_placeOf q1_taskAt v_length v_row w1_tasks w1_ties a2 a3 a4 a2 a4 C post _ ?_ n7 w1_placeOf w1_taskAt 0 a3 _ _ (hP.sub [0, 1, 2, 3, 4] rfl) (hD.sub [0, 1, 2, 3, 4] (by decide) rfl) hS ls (lv_sub hl [2, 3, 4, 6, 1, 0] rfl) h
    intro w1_placeOf_15 w1_taskAt_16 H locs hP hD hS ls hl h
    exact gb_retv C (w1_placeOf_15, w1_taskAt_16) (hP.sub [0, 1, 2, 3, 4] rfl) (hD.sub [0, 1, 2, 3, 4] (by decide) rfl) hS h dX1_deal_73
/-! OrderKeeper$Mender.mend(LOrderKeeper$Net;II)V -/
theorem in_X1_mend_X1 : ∀ w ∈ wsX10, w ∈ wsX1_mend := fun _ h => List.mem_cons_of_mem _ (List.mem_append_right _ h)
theorem in_X1_mend_X2 : ∀ w ∈ wsX20, w ∈ wsX1_mend := fun _ h => List.mem_cons_of_mem _ (List.mem_append_left _ (List.mem_append_right _ h))
theorem hdS_X1_mend : yX1_mend.cls ≠ "java/lang/invoke/MethodHandle" ∧ yX1_mend.cls ≠ "java/lang/invoke/VarHandle" ∧ (parseMethodDescriptor yX1_mend.desc).map (fun d => d.parameters.length) = some 3 := by decide +kernel
theorem hdV_X1_mend : yX1_mend.cls = RX1 ∧ yX1_mend.cls ≠ "java/lang/invoke/MethodHandle" ∧ yX1_mend.cls ≠ "java/lang/invoke/VarHandle" ∧ (parseMethodDescriptor yX1_mend.desc).map (fun d => d.parameters.length) = some 3 := ⟨rfl, hdS_X1_mend⟩
theorem cw_X1_mend_20 {R : Room} {s : State} {args : Array Value} (hts : ∀ w ∈ wsX1_mend, w.before args s = true) (hR : 1 + 1 ≤ R.frames ∧ 8 + (7 + 11) + 20 ≤ R.locals) : CallW R s args RX1 RX2 20 yX2_reaching cX2_reaching 7 (some .long) wsX2_reaching ({ frames := 1, cells := 0, slots := 0, locals := 20 }) 0 0 2 := cwV 2 hts gX1_mend_X2_reaching rfl rfl rfl hdV_X2_reaching hR
theorem cw_X1_mend_24 {R : Room} {s : State} {args : Array Value} (hts : ∀ w ∈ wsX1_mend, w.before args s = true) (hR : 2 + 1 ≤ R.frames ∧ 8 + (3 + 11) + 48 ≤ R.locals) : CallW R s args RX1 RX2 24 yX2_reachedFrom cX2_reachedFrom 3 (some .long) wsX2_reachedFrom ({ frames := 2, cells := 0, slots := 0, locals := 48 }) 0 0 2 := cwV 2 hts gX1_mend_X2_reachedFrom rfl rfl rfl hdV_X2_reachedFrom hR
theorem cw_X1_mend_31 {R : Room} {s : State} {args : Array Value} (hts : ∀ w ∈ wsX1_mend, w.before args s = true) (hR : 1 + 1 ≤ R.frames ∧ 8 + (7 + 11) + 22 ≤ R.locals) : CallW R s args RX1 RX1 31 yX1_line cX1_line 7 none wsX1_line ({ frames := 1, cells := 0, slots := 0, locals := 22 }) 0 0 4 := cwV 4 hts gX1_mend_X1_line rfl rfl rfl hdV_X1_line hR
theorem cw_X1_mend_35 {R : Room} {s : State} {args : Array Value} (hts : ∀ w ∈ wsX1_mend, w.before args s = true) (hR : 1 + 1 ≤ R.frames ∧ 8 + (9 + 11) + 22 ≤ R.locals) : CallW R s args RX1 RX1 35 yX1_deal cX1_deal 9 none wsX1_deal ({ frames := 1, cells := 0, slots := 0, locals := 22 }) 0 0 4 := cwV 4 hts gX1_mend_X1_deal rfl rfl rfl hdV_X1_deal hR
def wp_X1_mend (v_length : Int32) (v_row : Nat → Int32) (w1_after : Nat → Int64) (w1_before : Nat → Int64) (w1_placeOf : Nat → Int32) (w1_taskAt : Nat → Int32) (a2 : Int32) (a3 : Int32) (post : (Int32) → (Nat → Int32) → (Nat → Int32) → (Nat → Int32) → Prop) : Prop := vp_in a3 60 ∧ ∀ x4_2 : Int32, x4_2 = w1_placeOf a3.toNatClampNeg → vp_in a2 60 ∧ ∀ x5_4 : Int32, x5_4 = w1_placeOf a2.toNatClampNeg → ((x4_2 ≤ x5_4 → wp_X2_reaching w1_after w1_placeOf w1_taskAt a2 x4_2 (fun (r_6 : Int64) => wp_X2_reachedFrom w1_before w1_placeOf w1_taskAt a3 x5_4 (fun (r_7 : Int64) => wp_X1_line 0 v_row w1_taskAt r_6 x4_2 x5_4 (fun (z_8 : Int32) (v_row_9 : Nat → Int32) => wp_X1_line z_8 v_row_9 w1_taskAt r_7 x4_2 x5_4 (fun (z_10 : Int32) (v_row_11 : Nat → Int32) => wp_X1_deal z_10 v_row_11 w1_placeOf w1_taskAt (r_6 ||| r_7) x4_2 x5_4 (fun (w1_placeOf_12 : Nat → Int32) (w1_taskAt_13 : Nat → Int32) => post z_10 v_row_11 w1_placeOf_12 w1_taskAt_13)))))) ∧ (¬ (x4_2 ≤ x5_4) → post v_length v_row w1_placeOf w1_taskAt))
set_option maxHeartbeats 4000000 in
set_option maxRecDepth 100000 in
theorem c_X1_mend (l : Launch) (D : va_G) (cI cJ cZ cO : ClassId) (o : Nat) (o_row : Nat) (q1 : Nat) (q1_weight : Nat) (q1_after : Nat) (q1_before : Nat) (q1_placeOf : Nat) (q1_taskAt : Nat) (v_length : Int32) (v_row : Nat → Int32) (w1_tasks : Int32) (w1_ties : Int32) (w1_after : Nat → Int64) (w1_before : Nat → Int64) (w1_placeOf : Nat → Int32) (w1_taskAt : Nat → Int32) (a2 : Int32) (a3 : Int32) (post : (Int32) → (Nat → Int32) → (Nat → Int32) → (Nat → Int32) → Prop) (hw : wp_X1_mend v_length v_row w1_after w1_before w1_placeOf w1_taskAt a2 a3 post) : gb_Cv D cI cJ cZ cO l yX1_mend wsX1_mend ({ frames := 3, cells := 0, slots := 0, locals := 70 }) [.ref o, .ref q1, .int a2, .int a3] [(o, .inr (1, [.ref o_row, .int v_length])), (o_row, .inl (cI, 60, .inl v_row)), (q1, .inr (2, [.ref q1_weight, .ref q1_after, .ref q1_before, .ref q1_placeOf, .ref q1_taskAt, .int w1_tasks, .int w1_ties])), (q1_after, .inl (cJ, 60, .inr (.inl w1_after))), (q1_before, .inl (cJ, 60, .inr (.inl w1_before))), (q1_placeOf, .inl (cI, 60, .inl w1_placeOf)), (q1_taskAt, .inl (cI, 60, .inl w1_taskAt))] (fun u : (Int32) × (Nat → Int32) × (Nat → Int32) × (Nat → Int32) => post u.1 u.2.1 u.2.2.1 u.2.2.2) (fun u : (Int32) × (Nat → Int32) × (Nat → Int32) × (Nat → Int32) => [(o, .inr (1, [.ref o_row, .int u.1])), (o_row, .inl (cI, 60, .inl u.2.1)), (q1, .inr (2, [.ref q1_weight, .ref q1_after, .ref q1_before, .ref q1_placeOf, .ref q1_taskAt, .int w1_tasks, .int w1_ties])), (q1_after, .inl (cJ, 60, .inr (.inl w1_after))), (q1_before, .inl (cJ, 60, .inr (.inl w1_before))), (q1_placeOf, .inl (cI, 60, .inl u.2.2.1)), (q1_taskAt, .inl (cI, 60, .inl u.2.2.2))]) 0 0 := by
  refine gb_mv (cc := cX1_mend) (maxL := 10) (ret := none) (by decide) rfl (Nat.le_of_ble_eq_true rfl) ?_
  · intro p e s m below meth c A C hP hD hS ls hl
    obtain ⟨hx, hb, hr, hml, hown, hts, hlocks, hnm, hK, hA⟩ := id C
    replace hown : s.vm.findClass RX1 = some m.cls := hown
    have h := hw
    unfold wp_X1_mend at h
    replace hl : lv_has ls 10 [(0, .ref o), (1, .ref q1), (2, .int a2), (3, .int a3)] := hl
    refine lv_aload_n hx hb dX1_mend_0 rfl (lv_at hl 1 rfl) ?_
    refine va_get (D := D) (ci := 2) (v := .ref q1_placeOf) (C := RX2) (T := TX2) (N := 7) hx hb hts in_X1_mend_X2 hown hK.1 hP 2 rfl rfl 3 (by decide) (hts (.fieldLink RX1 15 "OrderKeeper$Net" "placeOf" "[I") (List.mem_of_getElem? (i := 1) rfl)) (fun _ h9 => h9) rfl dX1_mend_1 ?_
    refine lv_iload_n hx hb dX1_mend_4 rfl (lv_at hl 3 rfl) ?_
    obtain ⟨hi1, h⟩ := h
    refine va_iald hx hb hK.1 hP 5 0 rfl rfl hi1 dX1_mend_5 ?_
    refine lv_topi (fun x4_2 ex4_2 => ?_)
    replace h := h x4_2 ex4_2
    refine lv_istore (lv' := [(4, .int x4_2), (0, .ref o), (1, .ref q1), (2, .int a2), (3, .int a3)]) hx hb dX1_mend_6 hl (by decide) rfl (fun ls hl => ?_)
    refine lv_aload_n hx hb dX1_mend_8 rfl (lv_at hl 2 rfl) ?_
    refine va_get (D := D) (ci := 2) (v := .ref q1_placeOf) (C := RX2) (T := TX2) (N := 7) hx hb hts in_X1_mend_X2 hown hK.1 hP 2 rfl rfl 3 (by decide) (hts (.fieldLink RX1 15 "OrderKeeper$Net" "placeOf" "[I") (List.mem_of_getElem? (i := 1) rfl)) (fun _ h9 => h9) rfl dX1_mend_9 ?_
    refine lv_iload_n hx hb dX1_mend_12 rfl (lv_at hl 3 rfl) ?_
    obtain ⟨hi3, h⟩ := h
    refine va_iald hx hb hK.1 hP 5 0 rfl rfl hi3 dX1_mend_13 ?_
    refine lv_topi (fun x5_4 ex5_4 => ?_)
    replace h := h x5_4 ex5_4
    refine lv_istore (lv' := [(5, .int x5_4), (4, .int x4_2), (0, .ref o), (1, .ref q1), (2, .int a2), (3, .int a3)]) hx hb dX1_mend_14 hl (by decide) rfl (fun ls hl => ?_)
    refine lv_iload hx hb dX1_mend_16 (lv_at hl 1 rfl) ?_
    refine lv_iload hx hb dX1_mend_18 (lv_at hl 0 rfl) ?_
    refine lv_icmp_le (tgt := 24) hx hb dX1_mend_20 (by decide) (fun c5 => ?_) (fun c5 => ?_)
    · replace h := h.1 c5
      refine lv_aload_n hx hb dX1_mend_24 rfl (lv_at hl 3 rfl) ?_
      refine lv_iload_n hx hb dX1_mend_25 rfl (lv_at hl 4 rfl) ?_
      refine lv_iload hx hb dX1_mend_26 (lv_at hl 1 rfl) ?_
      refine gb_kl (wc := [(q1, .inr (2, [.ref q1_weight, .ref q1_after, .ref q1_before, .ref q1_placeOf, .ref q1_taskAt, .int w1_tasks, .int w1_ties])), (q1_after, .inl (cJ, 60, .inr (.inl w1_after))), (q1_placeOf, .inl (cI, 60, .inl w1_placeOf)), (q1_taskAt, .inl (cI, 60, .inl w1_taskAt))]) (wr := [(o, .inr (1, [.ref o_row, .int v_length])), (o_row, .inl (cI, 60, .inl v_row)), (q1_before, .inl (cJ, 60, .inr (.inl w1_before)))]) C hP hD hS [2, 3, 5, 6] [0, 1, 4] rfl rfl (by decide) (gb_rV (As := [.int a2, .int x4_2]) (rest := []) C ((c_X2_reaching l D cI cJ cZ cO q1 q1_weight q1_after q1_before q1_placeOf q1_taskAt w1_tasks w1_ties w1_after w1_placeOf w1_taskAt a2 x4_2 _ h) _) rfl (cw_X1_mend_20 hts ⟨Nat.le_of_ble_eq_true rfl, Nat.le_of_ble_eq_true rfl⟩) (ci := 2) (q0 := 0) rfl rfl rfl rfl hl.1 rfl (Nat.le_of_ble_eq_true rfl) dX1_mend_28 ⟨Nat.zero_le _, Nat.zero_le _⟩) ?_
      rintro r_6 _ H locs h hP hD hS
      try dsimp only at h
      replace hP : va_P D vwCl [(o, .inr (1, [.ref o_row, .int v_length])), (o_row, .inl (cI, 60, .inl v_row)), (q1_before, .inl (cJ, 60, .inr (.inl w1_before))), (q1, .inr (2, [.ref q1_weight, .ref q1_after, .ref q1_before, .ref q1_placeOf, .ref q1_taskAt, .int w1_tasks, .int w1_ties])), (q1_after, .inl (cJ, 60, .inr (.inl w1_after))), (q1_placeOf, .inl (cI, 60, .inl w1_placeOf)), (q1_taskAt, .inl (cI, 60, .inl w1_taskAt))] H := hP
      replace hD : va_D A [(o, .inr (1, [.ref o_row, .int v_length])), (o_row, .inl (cI, 60, .inl v_row)), (q1_before, .inl (cJ, 60, .inr (.inl w1_before))), (q1, .inr (2, [.ref q1_weight, .ref q1_after, .ref q1_before, .ref q1_placeOf, .ref q1_taskAt, .int w1_tasks, .int w1_ties])), (q1_after, .inl (cJ, 60, .inr (.inl w1_after))), (q1_placeOf, .inl (cI, 60, .inl w1_placeOf)), (q1_taskAt, .inl (cI, 60, .inl w1_taskAt))] := hD
      refine lv_lstore (lv' := [(6, .long r_6), (5, .int x5_4), (4, .int x4_2), (0, .ref o), (1, .ref q1), (2, .int a2), (3, .int a3)]) hx hb dX1_mend_31 hl (by decide) rfl (fun ls hl => ?_)
      refine lv_aload_n hx hb dX1_mend_33 rfl (lv_at hl 4 rfl) ?_
      refine lv_iload_n hx hb dX1_mend_34 rfl (lv_at hl 6 rfl) ?_
      refine lv_iload hx hb dX1_mend_35 (lv_at hl 1 rfl) ?_
      refine gb_kl (wc := [(q1, .inr (2, [.ref q1_weight, .ref q1_after, .ref q1_before, .ref q1_placeOf, .ref q1_taskAt, .int w1_tasks, .int w1_ties])), (q1_before, .inl (cJ, 60, .inr (.inl w1_before))), (q1_placeOf, .inl (cI, 60, .inl w1_placeOf)), (q1_taskAt, .inl (cI, 60, .inl w1_taskAt))]) (wr := [(o, .inr (1, [.ref o_row, .int v_length])), (o_row, .inl (cI, 60, .inl v_row)), (q1_after, .inl (cJ, 60, .inr (.inl w1_after)))]) C hP hD hS [3, 2, 5, 6] [0, 1, 4] rfl rfl (by decide) (gb_rV (As := [.int a3, .int x5_4]) (rest := []) C ((c_X2_reachedFrom l D cI cJ cZ cO q1 q1_weight q1_after q1_before q1_placeOf q1_taskAt w1_tasks w1_ties w1_before w1_placeOf w1_taskAt a3 x5_4 _ h) _) rfl (cw_X1_mend_24 hts ⟨Nat.le_of_ble_eq_true rfl, Nat.le_of_ble_eq_true rfl⟩) (ci := 2) (q0 := 0) rfl rfl rfl rfl hl.1 rfl (Nat.le_of_ble_eq_true rfl) dX1_mend_37 ⟨Nat.zero_le _, Nat.zero_le _⟩) ?_
      rintro r_7 _ H locs h hP hD hS
      try dsimp only at h
      replace hP : va_P D vwCl [(o, .inr (1, [.ref o_row, .int v_length])), (o_row, .inl (cI, 60, .inl v_row)), (q1_after, .inl (cJ, 60, .inr (.inl w1_after))), (q1, .inr (2, [.ref q1_weight, .ref q1_after, .ref q1_before, .ref q1_placeOf, .ref q1_taskAt, .int w1_tasks, .int w1_ties])), (q1_before, .inl (cJ, 60, .inr (.inl w1_before))), (q1_placeOf, .inl (cI, 60, .inl w1_placeOf)), (q1_taskAt, .inl (cI, 60, .inl w1_taskAt))] H := hP
      replace hD : va_D A [(o, .inr (1, [.ref o_row, .int v_length])), (o_row, .inl (cI, 60, .inl v_row)), (q1_after, .inl (cJ, 60, .inr (.inl w1_after))), (q1, .inr (2, [.ref q1_weight, .ref q1_after, .ref q1_before, .ref q1_placeOf, .ref q1_taskAt, .int w1_tasks, .int w1_ties])), (q1_before, .inl (cJ, 60, .inr (.inl w1_before))), (q1_placeOf, .inl (cI, 60, .inl w1_placeOf)), (q1_taskAt, .inl (cI, 60, .inl w1_taskAt))] := hD
      refine lv_lstore (lv' := [(8, .long r_7), (6, .long r_6), (5, .int x5_4), (4, .int x4_2), (0, .ref o), (1, .ref q1), (2, .int a2), (3, .int a3)]) hx hb dX1_mend_40 hl (by decide) rfl (fun ls hl => ?_)
      refine lv_aload_n hx hb dX1_mend_42 rfl (lv_at hl 4 rfl) ?_
      refine lv_iconst (v := 0) hx hb dX1_mend_43 (by decide) ?_
      refine va_put (D := D) (ci := 1) (v := .int 0) (ty := .int) (C := RX1) (T := TX1) (N := 2) hx hb hts in_X1_mend_X1 tyX1 tyX1_ok nmX1 hown hK.1 hP hD hS 0 rfl rfl 1 (by decide) (hts (.fieldLink RX1 27 "OrderKeeper$Mender" "length" "I") (List.mem_of_getElem? (i := 2) rfl)) (fun _ h9 => h9) rfl (tyX1_ok 1 (by decide)) rfl rfl (Nat.le_of_ble_eq_true rfl) dX1_mend_44 (fun H locs hP hD hS => ?_)
      replace hP : va_P D vwCl [(o, .inr (1, [.ref o_row, .int 0])), (o_row, .inl (cI, 60, .inl v_row)), (q1_after, .inl (cJ, 60, .inr (.inl w1_after))), (q1, .inr (2, [.ref q1_weight, .ref q1_after, .ref q1_before, .ref q1_placeOf, .ref q1_taskAt, .int w1_tasks, .int w1_ties])), (q1_before, .inl (cJ, 60, .inr (.inl w1_before))), (q1_placeOf, .inl (cI, 60, .inl w1_placeOf)), (q1_taskAt, .inl (cI, 60, .inl w1_taskAt))] H := hP
      replace hD : va_D A [(o, .inr (1, [.ref o_row, .int 0])), (o_row, .inl (cI, 60, .inl v_row)), (q1_after, .inl (cJ, 60, .inr (.inl w1_after))), (q1, .inr (2, [.ref q1_weight, .ref q1_after, .ref q1_before, .ref q1_placeOf, .ref q1_taskAt, .int w1_tasks, .int w1_ties])), (q1_before, .inl (cJ, 60, .inr (.inl w1_before))), (q1_placeOf, .inl (cI, 60, .inl w1_placeOf)), (q1_taskAt, .inl (cI, 60, .inl w1_taskAt))] := hD
      refine lv_aload_n hx hb dX1_mend_47 rfl (lv_at hl 4 rfl) ?_
      refine lv_aload_n hx hb dX1_mend_48 rfl (lv_at hl 5 rfl) ?_
      refine lv_lload hx hb dX1_mend_49 (lv_at hl 1 rfl) ?_
      refine lv_iload hx hb dX1_mend_51 (lv_at hl 3 rfl) ?_
      refine lv_iload hx hb dX1_mend_53 (lv_at hl 2 rfl) ?_
      refine gb_kv (wc := [(o, .inr (1, [.ref o_row, .int 0])), (o_row, .inl (cI, 60, .inl v_row)), (q1, .inr (2, [.ref q1_weight, .ref q1_after, .ref q1_before, .ref q1_placeOf, .ref q1_taskAt, .int w1_tasks, .int w1_ties])), (q1_taskAt, .inl (cI, 60, .inl w1_taskAt))]) (wr := [(q1_after, .inl (cJ, 60, .inr (.inl w1_after))), (q1_before, .inl (cJ, 60, .inr (.inl w1_before))), (q1_placeOf, .inl (cI, 60, .inl w1_placeOf))]) C hP hD hS [0, 1, 3, 6] [2, 4, 5] rfl rfl (by decide) (gb_rV (As := [.ref q1, .long r_6, .int x4_2, .int x5_4]) (rest := []) C ((c_X1_line l D cI cJ cZ cO o o_row q1 q1_weight q1_after q1_before q1_placeOf q1_taskAt 0 v_row w1_tasks w1_ties w1_taskAt r_6 x4_2 x5_4 _ h) _) rfl (cw_X1_mend_31 hts ⟨Nat.le_of_ble_eq_true rfl, Nat.le_of_ble_eq_true rfl⟩) (ci := 1) (q0 := 0) rfl rfl rfl rfl hl.1 rfl (Nat.le_of_ble_eq_true rfl) dX1_mend_55 ⟨Nat.zero_le _, Nat.zero_le _⟩) ?_
      rintro ⟨z_8, v_row_9⟩ H locs h hP hD hS
      try dsimp only at h
      replace hP : va_P D vwCl [(q1_after, .inl (cJ, 60, .inr (.inl w1_after))), (q1_before, .inl (cJ, 60, .inr (.inl w1_before))), (q1_placeOf, .inl (cI, 60, .inl w1_placeOf)), (o, .inr (1, [.ref o_row, .int z_8])), (o_row, .inl (cI, 60, .inl v_row_9)), (q1, .inr (2, [.ref q1_weight, .ref q1_after, .ref q1_before, .ref q1_placeOf, .ref q1_taskAt, .int w1_tasks, .int w1_ties])), (q1_taskAt, .inl (cI, 60, .inl w1_taskAt))] H := hP
      replace hD : va_D A [(q1_after, .inl (cJ, 60, .inr (.inl w1_after))), (q1_before, .inl (cJ, 60, .inr (.inl w1_before))), (q1_placeOf, .inl (cI, 60, .inl w1_placeOf)), (o, .inr (1, [.ref o_row, .int z_8])), (o_row, .inl (cI, 60, .inl v_row_9)), (q1, .inr (2, [.ref q1_weight, .ref q1_after, .ref q1_before, .ref q1_placeOf, .ref q1_taskAt, .int w1_tasks, .int w1_ties])), (q1_taskAt, .inl (cI, 60, .inl w1_taskAt))] := hD
      refine lv_aload_n hx hb dX1_mend_58 rfl (lv_at hl 4 rfl) ?_
      refine lv_aload_n hx hb dX1_mend_59 rfl (lv_at hl 5 rfl) ?_
      refine lv_lload hx hb dX1_mend_60 (lv_at hl 0 rfl) ?_
      refine lv_iload hx hb dX1_mend_62 (lv_at hl 3 rfl) ?_
      refine lv_iload hx hb dX1_mend_64 (lv_at hl 2 rfl) ?_
      refine gb_kv (wc := [(o, .inr (1, [.ref o_row, .int z_8])), (o_row, .inl (cI, 60, .inl v_row_9)), (q1, .inr (2, [.ref q1_weight, .ref q1_after, .ref q1_before, .ref q1_placeOf, .ref q1_taskAt, .int w1_tasks, .int w1_ties])), (q1_taskAt, .inl (cI, 60, .inl w1_taskAt))]) (wr := [(q1_after, .inl (cJ, 60, .inr (.inl w1_after))), (q1_before, .inl (cJ, 60, .inr (.inl w1_before))), (q1_placeOf, .inl (cI, 60, .inl w1_placeOf))]) C hP hD hS [3, 4, 5, 6] [0, 1, 2] rfl rfl (by decide) (gb_rV (As := [.ref q1, .long r_7, .int x4_2, .int x5_4]) (rest := []) C ((c_X1_line l D cI cJ cZ cO o o_row q1 q1_weight q1_after q1_before q1_placeOf q1_taskAt z_8 v_row_9 w1_tasks w1_ties w1_taskAt r_7 x4_2 x5_4 _ h) _) rfl (cw_X1_mend_31 hts ⟨Nat.le_of_ble_eq_true rfl, Nat.le_of_ble_eq_true rfl⟩) (ci := 1) (q0 := 0) rfl rfl rfl rfl hl.1 rfl (Nat.le_of_ble_eq_true rfl) dX1_mend_66 ⟨Nat.zero_le _, Nat.zero_le _⟩) ?_
      rintro ⟨z_10, v_row_11⟩ H locs h hP hD hS
      try dsimp only at h
      replace hP : va_P D vwCl [(q1_after, .inl (cJ, 60, .inr (.inl w1_after))), (q1_before, .inl (cJ, 60, .inr (.inl w1_before))), (q1_placeOf, .inl (cI, 60, .inl w1_placeOf)), (o, .inr (1, [.ref o_row, .int z_10])), (o_row, .inl (cI, 60, .inl v_row_11)), (q1, .inr (2, [.ref q1_weight, .ref q1_after, .ref q1_before, .ref q1_placeOf, .ref q1_taskAt, .int w1_tasks, .int w1_ties])), (q1_taskAt, .inl (cI, 60, .inl w1_taskAt))] H := hP
      replace hD : va_D A [(q1_after, .inl (cJ, 60, .inr (.inl w1_after))), (q1_before, .inl (cJ, 60, .inr (.inl w1_before))), (q1_placeOf, .inl (cI, 60, .inl w1_placeOf)), (o, .inr (1, [.ref o_row, .int z_10])), (o_row, .inl (cI, 60, .inl v_row_11)), (q1, .inr (2, [.ref q1_weight, .ref q1_after, .ref q1_before, .ref q1_placeOf, .ref q1_taskAt, .int w1_tasks, .int w1_ties])), (q1_taskAt, .inl (cI, 60, .inl w1_taskAt))] := hD
      refine lv_aload_n hx hb dX1_mend_69 rfl (lv_at hl 4 rfl) ?_
      refine lv_aload_n hx hb dX1_mend_70 rfl (lv_at hl 5 rfl) ?_
      refine lv_lload hx hb dX1_mend_71 (lv_at hl 1 rfl) ?_
      refine lv_lload hx hb dX1_mend_73 (lv_at hl 0 rfl) ?_
      refine lv_lor hx hb dX1_mend_75 ?_
      refine lv_iload hx hb dX1_mend_76 (lv_at hl 3 rfl) ?_
      refine lv_iload hx hb dX1_mend_78 (lv_at hl 2 rfl) ?_
      refine gb_kv (wc := [(o, .inr (1, [.ref o_row, .int z_10])), (o_row, .inl (cI, 60, .inl v_row_11)), (q1, .inr (2, [.ref q1_weight, .ref q1_after, .ref q1_before, .ref q1_placeOf, .ref q1_taskAt, .int w1_tasks, .int w1_ties])), (q1_placeOf, .inl (cI, 60, .inl w1_placeOf)), (q1_taskAt, .inl (cI, 60, .inl w1_taskAt))]) (wr := [(q1_after, .inl (cJ, 60, .inr (.inl w1_after))), (q1_before, .inl (cJ, 60, .inr (.inl w1_before)))]) C hP hD hS [3, 4, 5, 2, 6] [0, 1] rfl rfl (by decide) (gb_rV (As := [.ref q1, .long (r_6 ||| r_7), .int x4_2, .int x5_4]) (rest := []) C ((c_X1_deal l D cI cJ cZ cO o o_row q1 q1_weight q1_after q1_before q1_placeOf q1_taskAt z_10 v_row_11 w1_tasks w1_ties w1_placeOf w1_taskAt (r_6 ||| r_7) x4_2 x5_4 _ h) _) rfl (cw_X1_mend_35 hts ⟨Nat.le_of_ble_eq_true rfl, Nat.le_of_ble_eq_true rfl⟩) (ci := 1) (q0 := 0) rfl rfl rfl rfl hl.1 rfl (Nat.le_of_ble_eq_true rfl) dX1_mend_80 ⟨Nat.zero_le _, Nat.zero_le _⟩) ?_
      rintro ⟨w1_placeOf_12, w1_taskAt_13⟩ H locs h hP hD hS
      try dsimp only at h
      replace hP : va_P D vwCl [(q1_after, .inl (cJ, 60, .inr (.inl w1_after))), (q1_before, .inl (cJ, 60, .inr (.inl w1_before))), (o, .inr (1, [.ref o_row, .int z_10])), (o_row, .inl (cI, 60, .inl v_row_11)), (q1, .inr (2, [.ref q1_weight, .ref q1_after, .ref q1_before, .ref q1_placeOf, .ref q1_taskAt, .int w1_tasks, .int w1_ties])), (q1_placeOf, .inl (cI, 60, .inl w1_placeOf_12)), (q1_taskAt, .inl (cI, 60, .inl w1_taskAt_13))] H := hP
      replace hD : va_D A [(q1_after, .inl (cJ, 60, .inr (.inl w1_after))), (q1_before, .inl (cJ, 60, .inr (.inl w1_before))), (o, .inr (1, [.ref o_row, .int z_10])), (o_row, .inl (cI, 60, .inl v_row_11)), (q1, .inr (2, [.ref q1_weight, .ref q1_after, .ref q1_before, .ref q1_placeOf, .ref q1_taskAt, .int w1_tasks, .int w1_ties])), (q1_placeOf, .inl (cI, 60, .inl w1_placeOf_12)), (q1_taskAt, .inl (cI, 60, .inl w1_taskAt_13))] := hD
      exact gb_retv C (z_10, v_row_11, w1_placeOf_12, w1_taskAt_13) (hP.sub [2, 3, 4, 0, 1, 5, 6] rfl) (hD.sub [2, 3, 4, 0, 1, 5, 6] (by decide) rfl) hS h dX1_mend_83
    · replace h := h.2 c5
      exact gb_retv C (v_length, v_row, w1_placeOf, w1_taskAt) (hP.sub [0, 1, 2, 3, 4, 5, 6] rfl) (hD.sub [0, 1, 2, 3, 4, 5, 6] (by decide) rfl) hS h dX1_mend_23
/-! OrderKeeper$Ring.measure(LOrderKeeper$Net;II)V -/
theorem in_X4_measure_X2 : ∀ w ∈ wsX20, w ∈ wsX4_measure := fun _ h => List.mem_cons_of_mem _ (List.mem_append_right _ h)
theorem in_X4_measure_X4 : ∀ w ∈ wsX40, w ∈ wsX4_measure := fun _ h => List.mem_cons_of_mem _ (List.mem_append_left _ (List.mem_append_right _ h))
theorem hdS_X4_measure : yX4_measure.cls ≠ "java/lang/invoke/MethodHandle" ∧ yX4_measure.cls ≠ "java/lang/invoke/VarHandle" ∧ (parseMethodDescriptor yX4_measure.desc).map (fun d => d.parameters.length) = some 3 := by decide +kernel
theorem hdV_X4_measure : yX4_measure.cls = RX4 ∧ yX4_measure.cls ≠ "java/lang/invoke/MethodHandle" ∧ yX4_measure.cls ≠ "java/lang/invoke/VarHandle" ∧ (parseMethodDescriptor yX4_measure.desc).map (fun d => d.parameters.length) = some 3 := ⟨rfl, hdS_X4_measure⟩
theorem cw_X4_measure_36 {R : Room} {s : State} {args : Array Value} (hts : ∀ w ∈ wsX4_measure, w.before args s = true) (hR : 0 + 1 ≤ R.frames ∧ 8 + (4 + 11) + 0 ≤ R.locals) : CallB R s args RX4 36 yJ7_fill_53178 cJ7_fill_53178 4 none wsJ7_fill_53178 ({ frames := 0, cells := 0, slots := 0, locals := 0 }) 0 0 2 ∧ (Cond.static yJ7_fill_53178).before args s = true := va_cwS 2 hts gX4_measure_J7_fill_53178 rfl rfl rfl hdS_J7_fill_53178 hR
theorem cw_X4_measure_53 {R : Room} {s : State} {args : Array Value} (hts : ∀ w ∈ wsX4_measure, w.before args s = true) (hR : 1 + 1 ≤ R.frames ∧ 8 + (3 + 11) + 22 ≤ R.locals) : CallW R s args RX4 RX2 53 yX2_hasTie cX2_hasTie 3 (some .boolean) wsX2_hasTie ({ frames := 1, cells := 0, slots := 0, locals := 22 }) 0 0 2 := cwV 2 hts gX4_measure_X2_hasTie rfl rfl rfl hdV_X2_hasTie hR
def lp_X4_measure_50 (w1_tasks : Int32) (w1_after : Nat → Int64) (x2 : Int32) (x4 : Int32) (x5 : Int32) : Nat → (Nat → Int32) → (Int32) → ((Nat → Int32) → Prop) → Prop
  | 0, _, _, _ => False
  | n50 + 1, v_away, x6, kx => ((w1_tasks ≤ x6 → kx v_away) ∧ (¬ (w1_tasks ≤ x6) → wp_X2_hasTie w1_after x5 x6 (fun (r_11 : Int32) => ((r_11 = 0 → ∀ x6_13 : Int32, x6_13 = x6 + 1 → lp_X4_measure_50 w1_tasks w1_after x2 x4 x5 n50 v_away x6_13 kx) ∧ (¬ (r_11 = 0) → vp_in x5 60 ∧ vp_in x6 60 ∧ vp_in x5 60 ∧ ∀ v_away_17 : Nat → Int32, v_away_17 = upd v_away x5.toNatClampNeg (gb_min (v_away x5.toNatClampNeg) ((v_away x6.toNatClampNeg) + 1)) → ∀ x6_18 : Int32, x6_18 = x6 + 1 → lp_X4_measure_50 w1_tasks w1_after x2 x4 x5 n50 v_away_17 x6_18 kx)))))
set_option maxHeartbeats 4000000 in
set_option maxRecDepth 100000 in
theorem ml_X4_measure_50 {D : va_G} {cI cJ cZ cO : ClassId} {p : Program} {l : Launch} {e : Env} {s : State} {m : MethodId} {below : List Frame} {meth : Method} {c : Code} {A : Nat → Prop} (o : Nat) (o_row : Nat) (o_away : Nat) (q1 : Nat) (q1_weight : Nat) (q1_after : Nat) (q1_before : Nat) (q1_placeOf : Nat) (q1_taskAt : Nat) (v_length : Int32) (w1_tasks : Int32) (w1_ties : Int32) (w1_after : Nat → Int64) (w1_placeOf : Nat → Int32) (w1_taskAt : Nat → Int32) (a2 : Int32) (a3 : Int32) (x2 : Int32) (x4 : Int32) (x5 : Int32) (C : gb_At D cI cJ cZ cO p s m meth c ([.ref o, .ref q1, .int a2, .int a3] : List Value).toArray A yX4_measure cX4_measure none 7 wsX4_measure) (post : (Nat → Int32) → Prop) (kx : ((Nat → Int32) → Prop)) (hkx : ∀ (v_away : Nat → Int32) (H : Heap) (locs : List Loc), va_P D vwCl [(o, .inr (4, [.ref o_row, .int v_length, .ref o_away])), (o_away, .inl (cI, 60, .inl v_away)), (q1, .inr (2, [.ref q1_weight, .ref q1_after, .ref q1_before, .ref q1_placeOf, .ref q1_taskAt, .int w1_tasks, .int w1_ties])), (q1_after, .inl (cJ, 60, .inr (.inl w1_after))), (q1_placeOf, .inl (cI, 60, .inl w1_placeOf)), (q1_taskAt, .inl (cI, 60, .inl w1_taskAt))] H → va_D A [(o, .inr (4, [.ref o_row, .int v_length, .ref o_away])), (o_away, .inl (cI, 60, .inl v_away)), (q1, .inr (2, [.ref q1_weight, .ref q1_after, .ref q1_before, .ref q1_placeOf, .ref q1_taskAt, .int w1_tasks, .int w1_ties])), (q1_after, .inl (cJ, 60, .inr (.inl w1_after))), (q1_placeOf, .inl (cI, 60, .inl w1_placeOf)), (q1_taskAt, .inl (cI, 60, .inl w1_taskAt))] → va_S A s.heap H locs → ∀ ls : Array Slot, lv_has ls 7 [(0, .ref o), (1, .ref q1), (2, .int x2), (4, .int x4)] → kx v_away → W p l e ({ frames := 2, cells := 0, slots := 0, locals := 64 } : Room) s m ([.ref o, .ref q1, .int a2, .int a3] : List Value).toArray below meth c H locs 0 0 (MQ below (va_Qv (fun u : (Nat → Int32) => post u) (gb_B D (fun u : (Nat → Int32) => [(o, .inr (4, [.ref o_row, .int v_length, .ref o_away])), (o_away, .inl (cI, 60, .inl u)), (q1, .inr (2, [.ref q1_weight, .ref q1_after, .ref q1_before, .ref q1_placeOf, .ref q1_taskAt, .int w1_tasks, .int w1_ties])), (q1_after, .inl (cJ, 60, .inr (.inl w1_after))), (q1_placeOf, .inl (cI, 60, .inl w1_placeOf)), (q1_taskAt, .inl (cI, 60, .inl w1_taskAt))]) A) A) ([.ref o, .ref q1, .int a2, .int a3] : List Value).toArray s 0 0 A) (F0 m 102 ls [])) :
    ∀ (n50 : Nat) (v_away : Nat → Int32) (x6 : Int32) (H : Heap) (locs : List Loc), va_P D vwCl [(o, .inr (4, [.ref o_row, .int v_length, .ref o_away])), (o_away, .inl (cI, 60, .inl v_away)), (q1, .inr (2, [.ref q1_weight, .ref q1_after, .ref q1_before, .ref q1_placeOf, .ref q1_taskAt, .int w1_tasks, .int w1_ties])), (q1_after, .inl (cJ, 60, .inr (.inl w1_after))), (q1_placeOf, .inl (cI, 60, .inl w1_placeOf)), (q1_taskAt, .inl (cI, 60, .inl w1_taskAt))] H → va_D A [(o, .inr (4, [.ref o_row, .int v_length, .ref o_away])), (o_away, .inl (cI, 60, .inl v_away)), (q1, .inr (2, [.ref q1_weight, .ref q1_after, .ref q1_before, .ref q1_placeOf, .ref q1_taskAt, .int w1_tasks, .int w1_ties])), (q1_after, .inl (cJ, 60, .inr (.inl w1_after))), (q1_placeOf, .inl (cI, 60, .inl w1_placeOf)), (q1_taskAt, .inl (cI, 60, .inl w1_taskAt))] → va_S A s.heap H locs → ∀ ls : Array Slot, lv_has ls 7 [(0, .ref o), (1, .ref q1), (2, .int x2), (4, .int x4), (5, .int x5), (6, .int x6)] → lp_X4_measure_50 w1_tasks w1_after x2 x4 x5 n50 v_away x6 kx → W p l e ({ frames := 2, cells := 0, slots := 0, locals := 64 } : Room) s m ([.ref o, .ref q1, .int a2, .int a3] : List Value).toArray below meth c H locs 0 0 (MQ below (va_Qv (fun u : (Nat → Int32) => post u) (gb_B D (fun u : (Nat → Int32) => [(o, .inr (4, [.ref o_row, .int v_length, .ref o_away])), (o_away, .inl (cI, 60, .inl u)), (q1, .inr (2, [.ref q1_weight, .ref q1_after, .ref q1_before, .ref q1_placeOf, .ref q1_taskAt, .int w1_tasks, .int w1_ties])), (q1_after, .inl (cJ, 60, .inr (.inl w1_after))), (q1_placeOf, .inl (cI, 60, .inl w1_placeOf)), (q1_taskAt, .inl (cI, 60, .inl w1_taskAt))]) A) A) ([.ref o, .ref q1, .int a2, .int a3] : List Value).toArray s 0 0 A) (F0 m 50 ls []) := by
  obtain ⟨hx, hb, hr, hml, hown, hts, hlocks, hnm, hK, hA⟩ := id C
  replace hown : s.vm.findClass RX4 = some m.cls := hown
  intro n50
  induction n50 with
  | zero => intro v_away x6 H locs hP hD hS ls hl h; exact False.elim h
  | succ n50 ih =>
    intro v_away x6 H locs hP hD hS ls hl h
    rw [lp_X4_measure_50] at h
    refine lv_iload hx hb dX4_measure_50 (lv_at hl 5 rfl) ?_
    refine lv_aload_n hx hb dX4_measure_52 rfl (lv_at hl 1 rfl) ?_
    refine va_get (D := D) (ci := 2) (v := .int w1_tasks) (C := RX2) (T := TX2) (N := 7) hx hb hts in_X4_measure_X2 hown hK.1 hP 2 rfl rfl 5 (by decide) (hts (.fieldLink RX4 50 "OrderKeeper$Net" "tasks" "I") (List.mem_of_getElem? (i := 4) rfl)) (fun _ h9 => h9) rfl dX4_measure_53 ?_
    refine lv_icmp_ge (tgt := 102) hx hb dX4_measure_56 (by decide) (fun c10 => ?_) (fun c10 => ?_)
    · replace h := h.1 c10
      exact hkx v_away _ _ (hP.sub [0, 1, 2, 3, 4, 5] rfl) (hD.sub [0, 1, 2, 3, 4, 5] (by decide) rfl) hS ls (lv_sub hl [0, 1, 2, 3] rfl) h
    · replace h := h.2 c10
      refine lv_aload_n hx hb dX4_measure_59 rfl (lv_at hl 1 rfl) ?_
      refine lv_iload hx hb dX4_measure_60 (lv_at hl 4 rfl) ?_
      refine lv_iload hx hb dX4_measure_62 (lv_at hl 5 rfl) ?_
      refine gb_ki (wc := [(q1, .inr (2, [.ref q1_weight, .ref q1_after, .ref q1_before, .ref q1_placeOf, .ref q1_taskAt, .int w1_tasks, .int w1_ties])), (q1_after, .inl (cJ, 60, .inr (.inl w1_after)))]) (wr := [(o, .inr (4, [.ref o_row, .int v_length, .ref o_away])), (o_away, .inl (cI, 60, .inl v_away)), (q1_placeOf, .inl (cI, 60, .inl w1_placeOf)), (q1_taskAt, .inl (cI, 60, .inl w1_taskAt))]) C hP hD hS [2, 3] [0, 1, 4, 5] rfl rfl (by decide) (gb_rV (As := [.int x5, .int x6]) (rest := []) C ((c_X2_hasTie l D cI cJ cZ cO q1 q1_weight q1_after q1_before q1_placeOf q1_taskAt w1_tasks w1_ties w1_after x5 x6 _ h) _) rfl (cw_X4_measure_53 hts ⟨Nat.le_of_ble_eq_true rfl, Nat.le_of_ble_eq_true rfl⟩) (ci := 2) (q0 := 0) rfl rfl rfl rfl hl.1 rfl (Nat.le_of_ble_eq_true rfl) dX4_measure_64 ⟨Nat.zero_le _, Nat.zero_le _⟩) ?_
      rintro r_11 _ H locs h hP hD hS
      try dsimp only at h
      replace hP : va_P D vwCl [(o, .inr (4, [.ref o_row, .int v_length, .ref o_away])), (o_away, .inl (cI, 60, .inl v_away)), (q1_placeOf, .inl (cI, 60, .inl w1_placeOf)), (q1_taskAt, .inl (cI, 60, .inl w1_taskAt)), (q1, .inr (2, [.ref q1_weight, .ref q1_after, .ref q1_before, .ref q1_placeOf, .ref q1_taskAt, .int w1_tasks, .int w1_ties])), (q1_after, .inl (cJ, 60, .inr (.inl w1_after)))] H := hP
      replace hD : va_D A [(o, .inr (4, [.ref o_row, .int v_length, .ref o_away])), (o_away, .inl (cI, 60, .inl v_away)), (q1_placeOf, .inl (cI, 60, .inl w1_placeOf)), (q1_taskAt, .inl (cI, 60, .inl w1_taskAt)), (q1, .inr (2, [.ref q1_weight, .ref q1_after, .ref q1_before, .ref q1_placeOf, .ref q1_taskAt, .int w1_tasks, .int w1_ties])), (q1_after, .inl (cJ, 60, .inr (.inl w1_after)))] := hD
      refine lv_if_eq (tgt := 96) hx hb dX4_measure_67 (by decide) (fun c12 => ?_) (fun c12 => ?_)
      · replace h := h.1 c12
        obtain ⟨x6_13, ex6_13⟩ : ∃ z : Int32, z = x6 + 1 := ⟨_, rfl⟩
        refine lv_iinc (v := x6_13) (lv' := [(6, .int x6_13), (0, .ref o), (1, .ref q1), (2, .int x2), (4, .int x4), (5, .int x5)]) hx hb dX4_measure_96 hl (k := 5) rfl (by rw [ex6_13]; rfl) (by decide) rfl (fun ls hl => ?_)
        replace h := h x6_13 ex6_13
        refine lv_goto (tgt := 50) hx hb dX4_measure_99 (by decide) ?_
        exact ih v_away x6_13 _ _ (hP.sub [0, 1, 4, 5, 2, 3] rfl) (hD.sub [0, 1, 4, 5, 2, 3] (by decide) rfl) hS ls (lv_sub hl [1, 2, 3, 4, 5, 0] rfl) h
      · replace h := h.2 c12
        refine lv_aload_n hx hb dX4_measure_70 rfl (lv_at hl 0 rfl) ?_
        refine va_get (D := D) (ci := 4) (v := .ref o_away) (C := RX4) (T := TX4) (N := 3) hx hb hts in_X4_measure_X4 hown hK.1 hP 0 rfl rfl 2 (by decide) (hts (.fieldLink RX4 15 "OrderKeeper$Ring" "away" "[I") (List.mem_of_getElem? (i := 1) rfl)) (fun _ h9 => h9) rfl dX4_measure_71 ?_
        refine lv_iload hx hb dX4_measure_74 (lv_at hl 4 rfl) ?_
        refine lv_aload_n hx hb dX4_measure_76 rfl (lv_at hl 0 rfl) ?_
        refine va_get (D := D) (ci := 4) (v := .ref o_away) (C := RX4) (T := TX4) (N := 3) hx hb hts in_X4_measure_X4 hown hK.1 hP 0 rfl rfl 2 (by decide) (hts (.fieldLink RX4 15 "OrderKeeper$Ring" "away" "[I") (List.mem_of_getElem? (i := 1) rfl)) (fun _ h9 => h9) rfl dX4_measure_77 ?_
        refine lv_iload hx hb dX4_measure_80 (lv_at hl 4 rfl) ?_
        obtain ⟨hi14, h⟩ := h
        refine va_iald hx hb hK.1 hP 1 0 rfl rfl hi14 dX4_measure_82 ?_
        refine lv_aload_n hx hb dX4_measure_83 rfl (lv_at hl 0 rfl) ?_
        refine va_get (D := D) (ci := 4) (v := .ref o_away) (C := RX4) (T := TX4) (N := 3) hx hb hts in_X4_measure_X4 hown hK.1 hP 0 rfl rfl 2 (by decide) (hts (.fieldLink RX4 15 "OrderKeeper$Ring" "away" "[I") (List.mem_of_getElem? (i := 1) rfl)) (fun _ h9 => h9) rfl dX4_measure_84 ?_
        refine lv_iload hx hb dX4_measure_87 (lv_at hl 5 rfl) ?_
        obtain ⟨hi15, h⟩ := h
        refine va_iald hx hb hK.1 hP 1 0 rfl rfl hi15 dX4_measure_89 ?_
        refine lv_iconst (v := 1) hx hb dX4_measure_90 (by decide) ?_
        refine lv_iadd hx hb dX4_measure_91 ?_
        refine va_mmin hx hb (hml.trans hl.1.symm) hown (hts (.methodLink RX4 22 Lib.Math.min.name) (List.mem_of_getElem? (i := 5) rfl)) (hts (.static Lib.Math.min.name) (List.mem_of_getElem? (i := 6) rfl)) (hts (.initialized "java/lang/Math") (List.mem_of_getElem? (i := 7) rfl)) (hts (.code Lib.Math.min.name Lib.Math.min.code 2 (some .int)) (List.mem_of_getElem? (i := 8) rfl)) (Nat.le_of_ble_eq_true rfl) (Nat.le_of_ble_eq_true rfl) (Nat.zero_le _) (Nat.zero_le _) dX4_measure_92 ?_
        obtain ⟨hi16, h⟩ := h
        obtain ⟨v_away_17, ev_away_17⟩ : ∃ z : Nat → Int32, z = upd v_away x5.toNatClampNeg (gb_min (v_away x5.toNatClampNeg) ((v_away x6.toNatClampNeg) + 1)) := ⟨_, rfl⟩
        refine va_iast hx hb hK.1 hP hD hS 1 0 rfl rfl hi16 dX4_measure_95 (fun H locs hP hD hS => ?_)
        replace hP : va_P D vwCl [(o, .inr (4, [.ref o_row, .int v_length, .ref o_away])), (o_away, .inl (cI, 60, .inl v_away_17)), (q1_placeOf, .inl (cI, 60, .inl w1_placeOf)), (q1_taskAt, .inl (cI, 60, .inl w1_taskAt)), (q1, .inr (2, [.ref q1_weight, .ref q1_after, .ref q1_before, .ref q1_placeOf, .ref q1_taskAt, .int w1_tasks, .int w1_ties])), (q1_after, .inl (cJ, 60, .inr (.inl w1_after)))] H := by rw [ev_away_17]; exact hP
        replace hD : va_D A [(o, .inr (4, [.ref o_row, .int v_length, .ref o_away])), (o_away, .inl (cI, 60, .inl v_away_17)), (q1_placeOf, .inl (cI, 60, .inl w1_placeOf)), (q1_taskAt, .inl (cI, 60, .inl w1_taskAt)), (q1, .inr (2, [.ref q1_weight, .ref q1_after, .ref q1_before, .ref q1_placeOf, .ref q1_taskAt, .int w1_tasks, .int w1_ties])), (q1_after, .inl (cJ, 60, .inr (.inl w1_after)))] := by rw [ev_away_17]; exact hD
        replace h := h v_away_17 ev_away_17
        obtain ⟨x6_18, ex6_18⟩ : ∃ z : Int32, z = x6 + 1 := ⟨_, rfl⟩
        refine lv_iinc (v := x6_18) (lv' := [(6, .int x6_18), (0, .ref o), (1, .ref q1), (2, .int x2), (4, .int x4), (5, .int x5)]) hx hb dX4_measure_96 hl (k := 5) rfl (by rw [ex6_18]; rfl) (by decide) rfl (fun ls hl => ?_)
        replace h := h x6_18 ex6_18
        refine lv_goto (tgt := 50) hx hb dX4_measure_99 (by decide) ?_
        exact ih v_away_17 x6_18 _ _ (hP.sub [0, 1, 4, 5, 2, 3] rfl) (hD.sub [0, 1, 4, 5, 2, 3] (by decide) rfl) hS ls (lv_sub hl [1, 2, 3, 4, 5, 0] rfl) h
def lp_X4_measure_27 (w1_tasks : Int32) (w1_after : Nat → Int64) (w1_placeOf : Nat → Int32) (w1_taskAt : Nat → Int32) (x2 : Int32) : Nat → (Nat → Int32) → (Int32) → ((Nat → Int32) → Prop) → Prop
  | 0, _, _, _ => False
  | n27 + 1, v_away, x4, kx => vp_in x2 60 ∧ ((x4 < (w1_placeOf x2.toNatClampNeg) → kx v_away) ∧ (¬ (x4 < (w1_placeOf x2.toNatClampNeg)) → vp_in x4 60 ∧ ∀ x5_9 : Int32, x5_9 = w1_taskAt x4.toNatClampNeg → (∃ n50 : Nat, lp_X4_measure_50 w1_tasks w1_after x2 x4 x5_9 n50 v_away 0 (fun (v_away_19 : Nat → Int32) => ∀ x4_20 : Int32, x4_20 = x4 + (-1) → lp_X4_measure_27 w1_tasks w1_after w1_placeOf w1_taskAt x2 n27 v_away_19 x4_20 kx))))
set_option maxHeartbeats 4000000 in
set_option maxRecDepth 100000 in
theorem ml_X4_measure_27 {D : va_G} {cI cJ cZ cO : ClassId} {p : Program} {l : Launch} {e : Env} {s : State} {m : MethodId} {below : List Frame} {meth : Method} {c : Code} {A : Nat → Prop} (o : Nat) (o_row : Nat) (o_away : Nat) (q1 : Nat) (q1_weight : Nat) (q1_after : Nat) (q1_before : Nat) (q1_placeOf : Nat) (q1_taskAt : Nat) (v_length : Int32) (w1_tasks : Int32) (w1_ties : Int32) (w1_after : Nat → Int64) (w1_placeOf : Nat → Int32) (w1_taskAt : Nat → Int32) (a2 : Int32) (a3 : Int32) (x2 : Int32) (C : gb_At D cI cJ cZ cO p s m meth c ([.ref o, .ref q1, .int a2, .int a3] : List Value).toArray A yX4_measure cX4_measure none 7 wsX4_measure) (post : (Nat → Int32) → Prop) (kx : ((Nat → Int32) → Prop)) (hkx : ∀ (v_away : Nat → Int32) (H : Heap) (locs : List Loc), va_P D vwCl [(o, .inr (4, [.ref o_row, .int v_length, .ref o_away])), (o_away, .inl (cI, 60, .inl v_away)), (q1, .inr (2, [.ref q1_weight, .ref q1_after, .ref q1_before, .ref q1_placeOf, .ref q1_taskAt, .int w1_tasks, .int w1_ties])), (q1_after, .inl (cJ, 60, .inr (.inl w1_after))), (q1_placeOf, .inl (cI, 60, .inl w1_placeOf)), (q1_taskAt, .inl (cI, 60, .inl w1_taskAt))] H → va_D A [(o, .inr (4, [.ref o_row, .int v_length, .ref o_away])), (o_away, .inl (cI, 60, .inl v_away)), (q1, .inr (2, [.ref q1_weight, .ref q1_after, .ref q1_before, .ref q1_placeOf, .ref q1_taskAt, .int w1_tasks, .int w1_ties])), (q1_after, .inl (cJ, 60, .inr (.inl w1_after))), (q1_placeOf, .inl (cI, 60, .inl w1_placeOf)), (q1_taskAt, .inl (cI, 60, .inl w1_taskAt))] → va_S A s.heap H locs → ∀ ls : Array Slot, lv_has ls 7 [] → kx v_away → W p l e ({ frames := 2, cells := 0, slots := 0, locals := 64 } : Room) s m ([.ref o, .ref q1, .int a2, .int a3] : List Value).toArray below meth c H locs 0 0 (MQ below (va_Qv (fun u : (Nat → Int32) => post u) (gb_B D (fun u : (Nat → Int32) => [(o, .inr (4, [.ref o_row, .int v_length, .ref o_away])), (o_away, .inl (cI, 60, .inl u)), (q1, .inr (2, [.ref q1_weight, .ref q1_after, .ref q1_before, .ref q1_placeOf, .ref q1_taskAt, .int w1_tasks, .int w1_ties])), (q1_after, .inl (cJ, 60, .inr (.inl w1_after))), (q1_placeOf, .inl (cI, 60, .inl w1_placeOf)), (q1_taskAt, .inl (cI, 60, .inl w1_taskAt))]) A) A) ([.ref o, .ref q1, .int a2, .int a3] : List Value).toArray s 0 0 A) (F0 m 108 ls [])) :
    ∀ (n27 : Nat) (v_away : Nat → Int32) (x4 : Int32) (H : Heap) (locs : List Loc), va_P D vwCl [(o, .inr (4, [.ref o_row, .int v_length, .ref o_away])), (o_away, .inl (cI, 60, .inl v_away)), (q1, .inr (2, [.ref q1_weight, .ref q1_after, .ref q1_before, .ref q1_placeOf, .ref q1_taskAt, .int w1_tasks, .int w1_ties])), (q1_after, .inl (cJ, 60, .inr (.inl w1_after))), (q1_placeOf, .inl (cI, 60, .inl w1_placeOf)), (q1_taskAt, .inl (cI, 60, .inl w1_taskAt))] H → va_D A [(o, .inr (4, [.ref o_row, .int v_length, .ref o_away])), (o_away, .inl (cI, 60, .inl v_away)), (q1, .inr (2, [.ref q1_weight, .ref q1_after, .ref q1_before, .ref q1_placeOf, .ref q1_taskAt, .int w1_tasks, .int w1_ties])), (q1_after, .inl (cJ, 60, .inr (.inl w1_after))), (q1_placeOf, .inl (cI, 60, .inl w1_placeOf)), (q1_taskAt, .inl (cI, 60, .inl w1_taskAt))] → va_S A s.heap H locs → ∀ ls : Array Slot, lv_has ls 7 [(0, .ref o), (1, .ref q1), (2, .int x2), (4, .int x4)] → lp_X4_measure_27 w1_tasks w1_after w1_placeOf w1_taskAt x2 n27 v_away x4 kx → W p l e ({ frames := 2, cells := 0, slots := 0, locals := 64 } : Room) s m ([.ref o, .ref q1, .int a2, .int a3] : List Value).toArray below meth c H locs 0 0 (MQ below (va_Qv (fun u : (Nat → Int32) => post u) (gb_B D (fun u : (Nat → Int32) => [(o, .inr (4, [.ref o_row, .int v_length, .ref o_away])), (o_away, .inl (cI, 60, .inl u)), (q1, .inr (2, [.ref q1_weight, .ref q1_after, .ref q1_before, .ref q1_placeOf, .ref q1_taskAt, .int w1_tasks, .int w1_ties])), (q1_after, .inl (cJ, 60, .inr (.inl w1_after))), (q1_placeOf, .inl (cI, 60, .inl w1_placeOf)), (q1_taskAt, .inl (cI, 60, .inl w1_taskAt))]) A) A) ([.ref o, .ref q1, .int a2, .int a3] : List Value).toArray s 0 0 A) (F0 m 27 ls []) := by
  obtain ⟨hx, hb, hr, hml, hown, hts, hlocks, hnm, hK, hA⟩ := id C
  replace hown : s.vm.findClass RX4 = some m.cls := hown
  intro n27
  induction n27 with
  | zero => intro v_away x4 H locs hP hD hS ls hl h; exact False.elim h
  | succ n27 ih =>
    intro v_away x4 H locs hP hD hS ls hl h
    rw [lp_X4_measure_27] at h
    refine lv_iload hx hb dX4_measure_27 (lv_at hl 3 rfl) ?_
    refine lv_aload_n hx hb dX4_measure_29 rfl (lv_at hl 1 rfl) ?_
    refine va_get (D := D) (ci := 2) (v := .ref q1_placeOf) (C := RX2) (T := TX2) (N := 7) hx hb hts in_X4_measure_X2 hown hK.1 hP 2 rfl rfl 3 (by decide) (hts (.fieldLink RX4 42 "OrderKeeper$Net" "placeOf" "[I") (List.mem_of_getElem? (i := 2) rfl)) (fun _ h9 => h9) rfl dX4_measure_30 ?_
    refine lv_iload_n hx hb dX4_measure_33 rfl (lv_at hl 2 rfl) ?_
    obtain ⟨hi6, h⟩ := h
    refine va_iald hx hb hK.1 hP 4 0 rfl rfl hi6 dX4_measure_34 ?_
    refine lv_icmp_lt (tgt := 108) hx hb dX4_measure_35 (by decide) (fun c7 => ?_) (fun c7 => ?_)
    · replace h := h.1 c7
      exact hkx v_away _ _ (hP.sub [0, 1, 2, 3, 4, 5] rfl) (hD.sub [0, 1, 2, 3, 4, 5] (by decide) rfl) hS ls (lv_sub hl [] rfl) h
    · replace h := h.2 c7
      refine lv_aload_n hx hb dX4_measure_38 rfl (lv_at hl 1 rfl) ?_
      refine va_get (D := D) (ci := 2) (v := .ref q1_taskAt) (C := RX2) (T := TX2) (N := 7) hx hb hts in_X4_measure_X2 hown hK.1 hP 2 rfl rfl 4 (by decide) (hts (.fieldLink RX4 47 "OrderKeeper$Net" "taskAt" "[I") (List.mem_of_getElem? (i := 3) rfl)) (fun _ h9 => h9) rfl dX4_measure_39 ?_
      refine lv_iload hx hb dX4_measure_42 (lv_at hl 3 rfl) ?_
      obtain ⟨hi8, h⟩ := h
      refine va_iald hx hb hK.1 hP 5 0 rfl rfl hi8 dX4_measure_44 ?_
      refine lv_topi (fun x5_9 ex5_9 => ?_)
      replace h := h x5_9 ex5_9
      refine lv_istore (lv' := [(5, .int x5_9), (0, .ref o), (1, .ref q1), (2, .int x2), (4, .int x4)]) hx hb dX4_measure_45 hl (by decide) rfl (fun ls hl => ?_)
      refine lv_iconst (v := 0) hx hb dX4_measure_47 (by decide) ?_
      refine lv_istore (lv' := [(6, .int 0), (5, .int x5_9), (0, .ref o), (1, .ref q1), (2, .int x2), (4, .int x4)]) hx hb dX4_measure_48 hl (by decide) rfl (fun ls hl => ?_)
      obtain ⟨n50, h⟩ := h
      refine ml_X4_measure_50 o o_row o_away q1 q1_weight q1_after q1_before q1_placeOf q1_taskAt v_length w1_tasks w1_ties w1_after w1_placeOf w1_taskAt a2 a3 x2 x4 x5_9 C post _ ?_ n50 v_away 0 _ _ (hP.sub [0, 1, 2, 3, 4, 5] rfl) (hD.sub [0, 1, 2, 3, 4, 5] (by decide) rfl) hS ls (lv_sub hl [2, 3, 4, 5, 1, 0] rfl) h
      intro v_away_19 H locs hP hD hS ls hl h
      obtain ⟨x4_20, ex4_20⟩ : ∃ z : Int32, z = x4 + (-1) := ⟨_, rfl⟩
      refine lv_iinc (v := x4_20) (lv' := [(4, .int x4_20), (0, .ref o), (1, .ref q1), (2, .int x2)]) hx hb dX4_measure_102 hl (k := 3) rfl (by rw [ex4_20]; rfl) (by decide) rfl (fun ls hl => ?_)
      replace h := h x4_20 ex4_20
      refine lv_goto (tgt := 27) hx hb dX4_measure_105 (by decide) ?_
      exact ih v_away_19 x4_20 _ _ (hP.sub [0, 1, 2, 3, 4, 5] rfl) (hD.sub [0, 1, 2, 3, 4, 5] (by decide) rfl) hS ls (lv_sub hl [1, 2, 3, 0] rfl) h
def wp_X4_measure (v_away : Nat → Int32) (w1_tasks : Int32) (w1_after : Nat → Int64) (w1_placeOf : Nat → Int32) (w1_taskAt : Nat → Int32) (a2 : Int32) (a3 : Int32) (post : (Nat → Int32) → Prop) : Prop := wp_J7_fill_53178 v_away 1000 60 (fun (v_away_1 : Nat → Int32) => vp_in a3 60 ∧ ∀ v_away_3 : Nat → Int32, v_away_3 = upd v_away_1 a3.toNatClampNeg 0 → vp_in a3 60 ∧ ∀ x4_5 : Int32, x4_5 = (w1_placeOf a3.toNatClampNeg) - 1 → (∃ n27 : Nat, lp_X4_measure_27 w1_tasks w1_after w1_placeOf w1_taskAt a2 n27 v_away_3 x4_5 (fun (v_away_21 : Nat → Int32) => post v_away_21)))
set_option maxHeartbeats 4000000 in
set_option maxRecDepth 100000 in
theorem c_X4_measure (l : Launch) (D : va_G) (cI cJ cZ cO : ClassId) (o : Nat) (o_row : Nat) (o_away : Nat) (q1 : Nat) (q1_weight : Nat) (q1_after : Nat) (q1_before : Nat) (q1_placeOf : Nat) (q1_taskAt : Nat) (v_length : Int32) (v_away : Nat → Int32) (w1_tasks : Int32) (w1_ties : Int32) (w1_after : Nat → Int64) (w1_placeOf : Nat → Int32) (w1_taskAt : Nat → Int32) (a2 : Int32) (a3 : Int32) (post : (Nat → Int32) → Prop) (hw : wp_X4_measure v_away w1_tasks w1_after w1_placeOf w1_taskAt a2 a3 post) : gb_Cv D cI cJ cZ cO l yX4_measure wsX4_measure ({ frames := 2, cells := 0, slots := 0, locals := 64 }) [.ref o, .ref q1, .int a2, .int a3] [(o, .inr (4, [.ref o_row, .int v_length, .ref o_away])), (o_away, .inl (cI, 60, .inl v_away)), (q1, .inr (2, [.ref q1_weight, .ref q1_after, .ref q1_before, .ref q1_placeOf, .ref q1_taskAt, .int w1_tasks, .int w1_ties])), (q1_after, .inl (cJ, 60, .inr (.inl w1_after))), (q1_placeOf, .inl (cI, 60, .inl w1_placeOf)), (q1_taskAt, .inl (cI, 60, .inl w1_taskAt))] (fun u : (Nat → Int32) => post u) (fun u : (Nat → Int32) => [(o, .inr (4, [.ref o_row, .int v_length, .ref o_away])), (o_away, .inl (cI, 60, .inl u)), (q1, .inr (2, [.ref q1_weight, .ref q1_after, .ref q1_before, .ref q1_placeOf, .ref q1_taskAt, .int w1_tasks, .int w1_ties])), (q1_after, .inl (cJ, 60, .inr (.inl w1_after))), (q1_placeOf, .inl (cI, 60, .inl w1_placeOf)), (q1_taskAt, .inl (cI, 60, .inl w1_taskAt))]) 0 0 := by
  refine gb_mv (cc := cX4_measure) (maxL := 7) (ret := none) (by decide) rfl (Nat.le_of_ble_eq_true rfl) ?_
  · intro p e s m below meth c A C hP hD hS ls hl
    obtain ⟨hx, hb, hr, hml, hown, hts, hlocks, hnm, hK, hA⟩ := id C
    replace hown : s.vm.findClass RX4 = some m.cls := hown
    have h := hw
    unfold wp_X4_measure at h
    replace hl : lv_has ls 7 [(0, .ref o), (1, .ref q1), (2, .int a2), (3, .int a3)] := hl
    refine lv_aload_n hx hb dX4_measure_0 rfl (lv_at hl 0 rfl) ?_
    refine va_get (D := D) (ci := 4) (v := .ref o_away) (C := RX4) (T := TX4) (N := 3) hx hb hts in_X4_measure_X4 hown hK.1 hP 0 rfl rfl 2 (by decide) (hts (.fieldLink RX4 15 "OrderKeeper$Ring" "away" "[I") (List.mem_of_getElem? (i := 1) rfl)) (fun _ h9 => h9) rfl dX4_measure_1 ?_
    refine lv_sipush (v := 1000) hx hb dX4_measure_4 (by decide) ?_
    refine gb_kv (wc := [(o_away, .inl (cI, 60, .inl v_away))]) (wr := [(o, .inr (4, [.ref o_row, .int v_length, .ref o_away])), (q1, .inr (2, [.ref q1_weight, .ref q1_after, .ref q1_before, .ref q1_placeOf, .ref q1_taskAt, .int w1_tasks, .int w1_ties])), (q1_after, .inl (cJ, 60, .inr (.inl w1_after))), (q1_placeOf, .inl (cI, 60, .inl w1_placeOf)), (q1_taskAt, .inl (cI, 60, .inl w1_taskAt))]) C hP hD hS [1] [0, 2, 3, 4, 5] rfl rfl (by decide) (gb_rS (As := [.ref o_away, .int 1000]) (rest := []) C ((c_J7_fill_53178 l D cI cJ cZ cO o_away v_away 1000 60 _ h) _) rfl (cw_X4_measure_36 hts ⟨Nat.le_of_ble_eq_true rfl, Nat.le_of_ble_eq_true rfl⟩) rfl hl.1 rfl (Nat.le_of_ble_eq_true rfl) dX4_measure_7 ⟨Nat.zero_le _, Nat.zero_le _⟩) ?_
    rintro v_away_1 H locs h hP hD hS
    try dsimp only at h
    replace hP : va_P D vwCl [(o, .inr (4, [.ref o_row, .int v_length, .ref o_away])), (q1, .inr (2, [.ref q1_weight, .ref q1_after, .ref q1_before, .ref q1_placeOf, .ref q1_taskAt, .int w1_tasks, .int w1_ties])), (q1_after, .inl (cJ, 60, .inr (.inl w1_after))), (q1_placeOf, .inl (cI, 60, .inl w1_placeOf)), (q1_taskAt, .inl (cI, 60, .inl w1_taskAt)), (o_away, .inl (cI, 60, .inl v_away_1))] H := hP
    replace hD : va_D A [(o, .inr (4, [.ref o_row, .int v_length, .ref o_away])), (q1, .inr (2, [.ref q1_weight, .ref q1_after, .ref q1_before, .ref q1_placeOf, .ref q1_taskAt, .int w1_tasks, .int w1_ties])), (q1_after, .inl (cJ, 60, .inr (.inl w1_after))), (q1_placeOf, .inl (cI, 60, .inl w1_placeOf)), (q1_taskAt, .inl (cI, 60, .inl w1_taskAt)), (o_away, .inl (cI, 60, .inl v_away_1))] := hD
    refine lv_aload_n hx hb dX4_measure_10 rfl (lv_at hl 0 rfl) ?_
    refine va_get (D := D) (ci := 4) (v := .ref o_away) (C := RX4) (T := TX4) (N := 3) hx hb hts in_X4_measure_X4 hown hK.1 hP 0 rfl rfl 2 (by decide) (hts (.fieldLink RX4 15 "OrderKeeper$Ring" "away" "[I") (List.mem_of_getElem? (i := 1) rfl)) (fun _ h9 => h9) rfl dX4_measure_11 ?_
    refine lv_iload_n hx hb dX4_measure_14 rfl (lv_at hl 3 rfl) ?_
    refine lv_iconst (v := 0) hx hb dX4_measure_15 (by decide) ?_
    obtain ⟨hi2, h⟩ := h
    obtain ⟨v_away_3, ev_away_3⟩ : ∃ z : Nat → Int32, z = upd v_away_1 a3.toNatClampNeg 0 := ⟨_, rfl⟩
    refine va_iast hx hb hK.1 hP hD hS 5 0 rfl rfl hi2 dX4_measure_16 (fun H locs hP hD hS => ?_)
    replace hP : va_P D vwCl [(o, .inr (4, [.ref o_row, .int v_length, .ref o_away])), (q1, .inr (2, [.ref q1_weight, .ref q1_after, .ref q1_before, .ref q1_placeOf, .ref q1_taskAt, .int w1_tasks, .int w1_ties])), (q1_after, .inl (cJ, 60, .inr (.inl w1_after))), (q1_placeOf, .inl (cI, 60, .inl w1_placeOf)), (q1_taskAt, .inl (cI, 60, .inl w1_taskAt)), (o_away, .inl (cI, 60, .inl v_away_3))] H := by rw [ev_away_3]; exact hP
    replace hD : va_D A [(o, .inr (4, [.ref o_row, .int v_length, .ref o_away])), (q1, .inr (2, [.ref q1_weight, .ref q1_after, .ref q1_before, .ref q1_placeOf, .ref q1_taskAt, .int w1_tasks, .int w1_ties])), (q1_after, .inl (cJ, 60, .inr (.inl w1_after))), (q1_placeOf, .inl (cI, 60, .inl w1_placeOf)), (q1_taskAt, .inl (cI, 60, .inl w1_taskAt)), (o_away, .inl (cI, 60, .inl v_away_3))] := by rw [ev_away_3]; exact hD
    replace h := h v_away_3 ev_away_3
    refine lv_aload_n hx hb dX4_measure_17 rfl (lv_at hl 1 rfl) ?_
    refine va_get (D := D) (ci := 2) (v := .ref q1_placeOf) (C := RX2) (T := TX2) (N := 7) hx hb hts in_X4_measure_X2 hown hK.1 hP 1 rfl rfl 3 (by decide) (hts (.fieldLink RX4 42 "OrderKeeper$Net" "placeOf" "[I") (List.mem_of_getElem? (i := 2) rfl)) (fun _ h9 => h9) rfl dX4_measure_18 ?_
    refine lv_iload_n hx hb dX4_measure_21 rfl (lv_at hl 3 rfl) ?_
    obtain ⟨hi4, h⟩ := h
    refine va_iald hx hb hK.1 hP 3 0 rfl rfl hi4 dX4_measure_22 ?_
    refine lv_iconst (v := 1) hx hb dX4_measure_23 (by decide) ?_
    refine lv_isub hx hb dX4_measure_24 ?_
    refine lv_topi (fun x4_5 ex4_5 => ?_)
    replace h := h x4_5 ex4_5
    refine lv_istore (lv' := [(4, .int x4_5), (0, .ref o), (1, .ref q1), (2, .int a2), (3, .int a3)]) hx hb dX4_measure_25 hl (by decide) rfl (fun ls hl => ?_)
    obtain ⟨n27, h⟩ := h
    refine ml_X4_measure_27 o o_row o_away q1 q1_weight q1_after q1_before q1_placeOf q1_taskAt v_length w1_tasks w1_ties w1_after w1_placeOf w1_taskAt a2 a3 a2 C post _ ?_ n27 v_away_3 x4_5 _ _ (hP.sub [0, 5, 1, 2, 3, 4] rfl) (hD.sub [0, 5, 1, 2, 3, 4] (by decide) rfl) hS ls (lv_sub hl [1, 2, 3, 0] rfl) h
    intro v_away_21 H locs hP hD hS ls hl h
    exact gb_retv C (v_away_21) (hP.sub [0, 1, 2, 3, 4, 5] rfl) (hD.sub [0, 1, 2, 3, 4, 5] (by decide) rfl) hS h dX4_measure_108
/-! OrderKeeper$Ring.nearer(LOrderKeeper$Net;I)I -/
theorem in_X4_nearer_X2 : ∀ w ∈ wsX20, w ∈ wsX4_nearer := fun _ h => List.mem_cons_of_mem _ (List.mem_append_left _ (List.mem_append_right _ h))
theorem in_X4_nearer_X4 : ∀ w ∈ wsX40, w ∈ wsX4_nearer := fun _ h => List.mem_cons_of_mem _ (List.mem_append_right _ h)
theorem hdS_X4_nearer : yX4_nearer.cls ≠ "java/lang/invoke/MethodHandle" ∧ yX4_nearer.cls ≠ "java/lang/invoke/VarHandle" ∧ (parseMethodDescriptor yX4_nearer.desc).map (fun d => d.parameters.length) = some 2 := by decide +kernel
theorem hdV_X4_nearer : yX4_nearer.cls = RX4 ∧ yX4_nearer.cls ≠ "java/lang/invoke/MethodHandle" ∧ yX4_nearer.cls ≠ "java/lang/invoke/VarHandle" ∧ (parseMethodDescriptor yX4_nearer.desc).map (fun d => d.parameters.length) = some 2 := ⟨rfl, hdS_X4_nearer⟩
theorem cw_X4_nearer_53 {R : Room} {s : State} {args : Array Value} (hts : ∀ w ∈ wsX4_nearer, w.before args s = true) (hR : 1 + 1 ≤ R.frames ∧ 8 + (3 + 11) + 22 ≤ R.locals) : CallW R s args RX4 RX2 53 yX2_hasTie cX2_hasTie 3 (some .boolean) wsX2_hasTie ({ frames := 1, cells := 0, slots := 0, locals := 22 }) 0 0 2 := cwV 2 hts gX4_nearer_X2_hasTie rfl rfl rfl hdV_X2_hasTie hR
def lp_X4_nearer_2 (v_away : Nat → Int32) (w1_tasks : Int32) (w1_after : Nat → Int64) (x2 : Int32) (post : Int32 → Prop) : Nat → (Int32) → (Prop) → Prop
  | 0, _, _ => False
  | n2 + 1, x3, kx => ((w1_tasks ≤ x3 → kx) ∧ (¬ (w1_tasks ≤ x3) → wp_X2_hasTie w1_after x2 x3 (fun (r_2 : Int32) => ((r_2 = 0 → ∀ x3_4 : Int32, x3_4 = x3 + 1 → lp_X4_nearer_2 v_away w1_tasks w1_after x2 post n2 x3_4 kx) ∧ (¬ (r_2 = 0) → vp_in x3 60 ∧ vp_in x2 60 ∧ (((v_away x3.toNatClampNeg) = ((v_away x2.toNatClampNeg) - 1) → post x3) ∧ (¬ ((v_away x3.toNatClampNeg) = ((v_away x2.toNatClampNeg) - 1)) → ∀ x3_8 : Int32, x3_8 = x3 + 1 → lp_X4_nearer_2 v_away w1_tasks w1_after x2 post n2 x3_8 kx)))))))
set_option maxHeartbeats 4000000 in
set_option maxRecDepth 100000 in
theorem ml_X4_nearer_2 {D : va_G} {cI cJ cZ cO : ClassId} {p : Program} {l : Launch} {e : Env} {s : State} {m : MethodId} {below : List Frame} {meth : Method} {c : Code} {A : Nat → Prop} (o : Nat) (o_row : Nat) (o_away : Nat) (q1 : Nat) (q1_weight : Nat) (q1_after : Nat) (q1_before : Nat) (q1_placeOf : Nat) (q1_taskAt : Nat) (v_length : Int32) (v_away : Nat → Int32) (w1_tasks : Int32) (w1_ties : Int32) (w1_after : Nat → Int64) (a2 : Int32) (x2 : Int32) (C : gb_At D cI cJ cZ cO p s m meth c ([.ref o, .ref q1, .int a2] : List Value).toArray A yX4_nearer cX4_nearer (some .int) 4 wsX4_nearer) (post : Int32 → Prop) (kx : (Prop)) (hkx : ∀  (H : Heap) (locs : List Loc), va_P D vwCl [(o, .inr (4, [.ref o_row, .int v_length, .ref o_away])), (o_away, .inl (cI, 60, .inl v_away)), (q1, .inr (2, [.ref q1_weight, .ref q1_after, .ref q1_before, .ref q1_placeOf, .ref q1_taskAt, .int w1_tasks, .int w1_ties])), (q1_after, .inl (cJ, 60, .inr (.inl w1_after)))] H → va_D A [(o, .inr (4, [.ref o_row, .int v_length, .ref o_away])), (o_away, .inl (cI, 60, .inl v_away)), (q1, .inr (2, [.ref q1_weight, .ref q1_after, .ref q1_before, .ref q1_placeOf, .ref q1_taskAt, .int w1_tasks, .int w1_ties])), (q1_after, .inl (cJ, 60, .inr (.inl w1_after)))] → va_S A s.heap H locs → ∀ ls : Array Slot, lv_has ls 4 [] → kx  → W p l e ({ frames := 2, cells := 0, slots := 0, locals := 44 } : Room) s m ([.ref o, .ref q1, .int a2] : List Value).toArray below meth c H locs 0 0 (MQ below (va_Qi (fun (r : Int32) (_ : Unit) => post r ) (gb_B D (fun _ : Unit => [(o, .inr (4, [.ref o_row, .int v_length, .ref o_away])), (o_away, .inl (cI, 60, .inl v_away)), (q1, .inr (2, [.ref q1_weight, .ref q1_after, .ref q1_before, .ref q1_placeOf, .ref q1_taskAt, .int w1_tasks, .int w1_ties])), (q1_after, .inl (cJ, 60, .inr (.inl w1_after)))]) A) A) ([.ref o, .ref q1, .int a2] : List Value).toArray s 0 0 A) (F0 m 44 ls [])) :
    ∀ (n2 : Nat) (x3 : Int32) (H : Heap) (locs : List Loc), va_P D vwCl [(o, .inr (4, [.ref o_row, .int v_length, .ref o_away])), (o_away, .inl (cI, 60, .inl v_away)), (q1, .inr (2, [.ref q1_weight, .ref q1_after, .ref q1_before, .ref q1_placeOf, .ref q1_taskAt, .int w1_tasks, .int w1_ties])), (q1_after, .inl (cJ, 60, .inr (.inl w1_after)))] H → va_D A [(o, .inr (4, [.ref o_row, .int v_length, .ref o_away])), (o_away, .inl (cI, 60, .inl v_away)), (q1, .inr (2, [.ref q1_weight, .ref q1_after, .ref q1_before, .ref q1_placeOf, .ref q1_taskAt, .int w1_tasks, .int w1_ties])), (q1_after, .inl (cJ, 60, .inr (.inl w1_after)))] → va_S A s.heap H locs → ∀ ls : Array Slot, lv_has ls 4 [(0, .ref o), (1, .ref q1), (2, .int x2), (3, .int x3)] → lp_X4_nearer_2 v_away w1_tasks w1_after x2 post n2 x3 kx → W p l e ({ frames := 2, cells := 0, slots := 0, locals := 44 } : Room) s m ([.ref o, .ref q1, .int a2] : List Value).toArray below meth c H locs 0 0 (MQ below (va_Qi (fun (r : Int32) (_ : Unit) => post r ) (gb_B D (fun _ : Unit => [(o, .inr (4, [.ref o_row, .int v_length, .ref o_away])), (o_away, .inl (cI, 60, .inl v_away)), (q1, .inr (2, [.ref q1_weight, .ref q1_after, .ref q1_before, .ref q1_placeOf, .ref q1_taskAt, .int w1_tasks, .int w1_ties])), (q1_after, .inl (cJ, 60, .inr (.inl w1_after)))]) A) A) ([.ref o, .ref q1, .int a2] : List Value).toArray s 0 0 A) (F0 m 2 ls []) := by
  obtain ⟨hx, hb, hr, hml, hown, hts, hlocks, hnm, hK, hA⟩ := id C
  replace hown : s.vm.findClass RX4 = some m.cls := hown
  intro n2
  induction n2 with
  | zero => intro x3 H locs hP hD hS ls hl h; exact False.elim h
  | succ n2 ih =>
    intro x3 H locs hP hD hS ls hl h
    rw [lp_X4_nearer_2] at h
    refine lv_iload_n hx hb dX4_nearer_2 rfl (lv_at hl 3 rfl) ?_
    refine lv_aload_n hx hb dX4_nearer_3 rfl (lv_at hl 1 rfl) ?_
    refine va_get (D := D) (ci := 2) (v := .int w1_tasks) (C := RX2) (T := TX2) (N := 7) hx hb hts in_X4_nearer_X2 hown hK.1 hP 2 rfl rfl 5 (by decide) (hts (.fieldLink RX4 50 "OrderKeeper$Net" "tasks" "I") (List.mem_of_getElem? (i := 1) rfl)) (fun _ h9 => h9) rfl dX4_nearer_4 ?_
    refine lv_icmp_ge (tgt := 44) hx hb dX4_nearer_7 (by decide) (fun c1 => ?_) (fun c1 => ?_)
    · replace h := h.1 c1
      exact hkx _ _ (hP.sub [0, 1, 2, 3] rfl) (hD.sub [0, 1, 2, 3] (by decide) rfl) hS ls (lv_sub hl [] rfl) h
    · replace h := h.2 c1
      refine lv_aload_n hx hb dX4_nearer_10 rfl (lv_at hl 1 rfl) ?_
      refine lv_iload_n hx hb dX4_nearer_11 rfl (lv_at hl 2 rfl) ?_
      refine lv_iload_n hx hb dX4_nearer_12 rfl (lv_at hl 3 rfl) ?_
      refine gb_ki (wc := [(q1, .inr (2, [.ref q1_weight, .ref q1_after, .ref q1_before, .ref q1_placeOf, .ref q1_taskAt, .int w1_tasks, .int w1_ties])), (q1_after, .inl (cJ, 60, .inr (.inl w1_after)))]) (wr := [(o, .inr (4, [.ref o_row, .int v_length, .ref o_away])), (o_away, .inl (cI, 60, .inl v_away))]) C hP hD hS [2, 3] [0, 1] rfl rfl (by decide) (gb_rV (As := [.int x2, .int x3]) (rest := []) C ((c_X2_hasTie l D cI cJ cZ cO q1 q1_weight q1_after q1_before q1_placeOf q1_taskAt w1_tasks w1_ties w1_after x2 x3 _ h) _) rfl (cw_X4_nearer_53 hts ⟨Nat.le_of_ble_eq_true rfl, Nat.le_of_ble_eq_true rfl⟩) (ci := 2) (q0 := 0) rfl rfl rfl rfl hl.1 rfl (Nat.le_of_ble_eq_true rfl) dX4_nearer_13 ⟨Nat.zero_le _, Nat.zero_le _⟩) ?_
      rintro r_2 _ H locs h hP hD hS
      try dsimp only at h
      replace hP : va_P D vwCl [(o, .inr (4, [.ref o_row, .int v_length, .ref o_away])), (o_away, .inl (cI, 60, .inl v_away)), (q1, .inr (2, [.ref q1_weight, .ref q1_after, .ref q1_before, .ref q1_placeOf, .ref q1_taskAt, .int w1_tasks, .int w1_ties])), (q1_after, .inl (cJ, 60, .inr (.inl w1_after)))] H := hP
      replace hD : va_D A [(o, .inr (4, [.ref o_row, .int v_length, .ref o_away])), (o_away, .inl (cI, 60, .inl v_away)), (q1, .inr (2, [.ref q1_weight, .ref q1_after, .ref q1_before, .ref q1_placeOf, .ref q1_taskAt, .int w1_tasks, .int w1_ties])), (q1_after, .inl (cJ, 60, .inr (.inl w1_after)))] := hD
      refine lv_if_eq (tgt := 38) hx hb dX4_nearer_16 (by decide) (fun c3 => ?_) (fun c3 => ?_)
      · replace h := h.1 c3
        obtain ⟨x3_4, ex3_4⟩ : ∃ z : Int32, z = x3 + 1 := ⟨_, rfl⟩
        refine lv_iinc (v := x3_4) (lv' := [(3, .int x3_4), (0, .ref o), (1, .ref q1), (2, .int x2)]) hx hb dX4_nearer_38 hl (k := 3) rfl (by rw [ex3_4]; rfl) (by decide) rfl (fun ls hl => ?_)
        replace h := h x3_4 ex3_4
        refine lv_goto (tgt := 2) hx hb dX4_nearer_41 (by decide) ?_
        exact ih x3_4 _ _ (hP.sub [0, 1, 2, 3] rfl) (hD.sub [0, 1, 2, 3] (by decide) rfl) hS ls (lv_sub hl [1, 2, 3, 0] rfl) h
      · replace h := h.2 c3
        refine lv_aload_n hx hb dX4_nearer_19 rfl (lv_at hl 0 rfl) ?_
        refine va_get (D := D) (ci := 4) (v := .ref o_away) (C := RX4) (T := TX4) (N := 3) hx hb hts in_X4_nearer_X4 hown hK.1 hP 0 rfl rfl 2 (by decide) (hts (.fieldLink RX4 15 "OrderKeeper$Ring" "away" "[I") (List.mem_of_getElem? (i := 2) rfl)) (fun _ h9 => h9) rfl dX4_nearer_20 ?_
        refine lv_iload_n hx hb dX4_nearer_23 rfl (lv_at hl 3 rfl) ?_
        obtain ⟨hi5, h⟩ := h
        refine va_iald hx hb hK.1 hP 1 0 rfl rfl hi5 dX4_nearer_24 ?_
        refine lv_aload_n hx hb dX4_nearer_25 rfl (lv_at hl 0 rfl) ?_
        refine va_get (D := D) (ci := 4) (v := .ref o_away) (C := RX4) (T := TX4) (N := 3) hx hb hts in_X4_nearer_X4 hown hK.1 hP 0 rfl rfl 2 (by decide) (hts (.fieldLink RX4 15 "OrderKeeper$Ring" "away" "[I") (List.mem_of_getElem? (i := 2) rfl)) (fun _ h9 => h9) rfl dX4_nearer_26 ?_
        refine lv_iload_n hx hb dX4_nearer_29 rfl (lv_at hl 2 rfl) ?_
        obtain ⟨hi6, h⟩ := h
        refine va_iald hx hb hK.1 hP 1 0 rfl rfl hi6 dX4_nearer_30 ?_
        refine lv_iconst (v := 1) hx hb dX4_nearer_31 (by decide) ?_
        refine lv_isub hx hb dX4_nearer_32 ?_
        refine lv_icmp_ne (tgt := 38) hx hb dX4_nearer_33 (by decide) (fun c7 => ?_) (fun c7 => ?_)
        · replace h := h.2 c7
          obtain ⟨x3_8, ex3_8⟩ : ∃ z : Int32, z = x3 + 1 := ⟨_, rfl⟩
          refine lv_iinc (v := x3_8) (lv' := [(3, .int x3_8), (0, .ref o), (1, .ref q1), (2, .int x2)]) hx hb dX4_nearer_38 hl (k := 3) rfl (by rw [ex3_8]; rfl) (by decide) rfl (fun ls hl => ?_)
          replace h := h x3_8 ex3_8
          refine lv_goto (tgt := 2) hx hb dX4_nearer_41 (by decide) ?_
          exact ih x3_8 _ _ (hP.sub [0, 1, 2, 3] rfl) (hD.sub [0, 1, 2, 3] (by decide) rfl) hS ls (lv_sub hl [1, 2, 3, 0] rfl) h
        · replace h := h.1 c7
          refine lv_iload_n hx hb dX4_nearer_36 rfl (lv_at hl 3 rfl) ?_
          exact gb_reti C () (hP.sub [0, 1, 2, 3] rfl) (hD.sub [0, 1, 2, 3] (by decide) rfl) hS h dX4_nearer_37
def wp_X4_nearer (v_away : Nat → Int32) (w1_tasks : Int32) (w1_after : Nat → Int64) (a2 : Int32) (post : Int32 → Prop) : Prop := (∃ n2 : Nat, lp_X4_nearer_2 v_away w1_tasks w1_after a2 post n2 0 (post (-1)))
set_option maxHeartbeats 4000000 in
set_option maxRecDepth 100000 in
theorem c_X4_nearer (l : Launch) (D : va_G) (cI cJ cZ cO : ClassId) (o : Nat) (o_row : Nat) (o_away : Nat) (q1 : Nat) (q1_weight : Nat) (q1_after : Nat) (q1_before : Nat) (q1_placeOf : Nat) (q1_taskAt : Nat) (v_length : Int32) (v_away : Nat → Int32) (w1_tasks : Int32) (w1_ties : Int32) (w1_after : Nat → Int64) (a2 : Int32) (post : Int32 → Prop) (hw : wp_X4_nearer v_away w1_tasks w1_after a2 post) : gb_Ci D cI cJ cZ cO l yX4_nearer wsX4_nearer ({ frames := 2, cells := 0, slots := 0, locals := 44 }) [.ref o, .ref q1, .int a2] [(o, .inr (4, [.ref o_row, .int v_length, .ref o_away])), (o_away, .inl (cI, 60, .inl v_away)), (q1, .inr (2, [.ref q1_weight, .ref q1_after, .ref q1_before, .ref q1_placeOf, .ref q1_taskAt, .int w1_tasks, .int w1_ties])), (q1_after, .inl (cJ, 60, .inr (.inl w1_after)))] (fun (r : Int32) (_ : Unit) => post r ) (fun _ : Unit => [(o, .inr (4, [.ref o_row, .int v_length, .ref o_away])), (o_away, .inl (cI, 60, .inl v_away)), (q1, .inr (2, [.ref q1_weight, .ref q1_after, .ref q1_before, .ref q1_placeOf, .ref q1_taskAt, .int w1_tasks, .int w1_ties])), (q1_after, .inl (cJ, 60, .inr (.inl w1_after)))]) 0 0 := by
  refine gb_mi (cc := cX4_nearer) (maxL := 4) (ret := (some .int)) (by decide) rfl (Nat.le_of_ble_eq_true rfl) ?_
  · intro p e s m below meth c A C hP hD hS ls hl
    obtain ⟨hx, hb, hr, hml, hown, hts, hlocks, hnm, hK, hA⟩ := id C
    replace hown : s.vm.findClass RX4 = some m.cls := hown
    have h := hw
    unfold wp_X4_nearer at h
    replace hl : lv_has ls 4 [(0, .ref o), (1, .ref q1), (2, .int a2)] := hl
    refine lv_iconst (v := 0) hx hb dX4_nearer_0 (by decide) ?_
    refine lv_istore_n (lv' := [(3, .int 0), (0, .ref o), (1, .ref q1), (2, .int a2)]) hx hb dX4_nearer_1 rfl hl (by decide) rfl (fun ls hl => ?_)
    obtain ⟨n2, h⟩ := h
    refine ml_X4_nearer_2 o o_row o_away q1 q1_weight q1_after q1_before q1_placeOf q1_taskAt v_length v_away w1_tasks w1_ties w1_after a2 a2 C post _ ?_ n2 0 _ _ (hP.sub [0, 1, 2, 3] rfl) (hD.sub [0, 1, 2, 3] (by decide) rfl) hS ls (lv_sub hl [1, 2, 3, 0] rfl) h
    intro H locs hP hD hS ls hl h
    refine lv_iconst (v := (-1)) hx hb dX4_nearer_44 (by decide) ?_
    exact gb_reti C () (hP.sub [0, 1, 2, 3] rfl) (hD.sub [0, 1, 2, 3] (by decide) rfl) hS h dX4_nearer_45
/-! OrderKeeper$Ring.find(LOrderKeeper$Net;II)V -/
theorem in_X4_find_X4 : ∀ w ∈ wsX40, w ∈ wsX4_find := fun _ h => List.mem_cons_of_mem _ (List.mem_append_left _ (List.mem_append_right _ h))
theorem hdS_X4_find : yX4_find.cls ≠ "java/lang/invoke/MethodHandle" ∧ yX4_find.cls ≠ "java/lang/invoke/VarHandle" ∧ (parseMethodDescriptor yX4_find.desc).map (fun d => d.parameters.length) = some 3 := by decide +kernel
theorem hdV_X4_find : yX4_find.cls = RX4 ∧ yX4_find.cls ≠ "java/lang/invoke/MethodHandle" ∧ yX4_find.cls ≠ "java/lang/invoke/VarHandle" ∧ (parseMethodDescriptor yX4_find.desc).map (fun d => d.parameters.length) = some 3 := ⟨rfl, hdS_X4_find⟩
theorem cw_X4_find_18 {R : Room} {s : State} {args : Array Value} (hts : ∀ w ∈ wsX4_find, w.before args s = true) (hR : 2 + 1 ≤ R.frames ∧ 8 + (7 + 11) + 64 ≤ R.locals) : CallW R s args RX4 RX4 18 yX4_measure cX4_measure 7 none wsX4_measure ({ frames := 2, cells := 0, slots := 0, locals := 64 }) 0 0 3 := cwV 3 hts gX4_find_X4_measure rfl rfl rfl hdV_X4_measure hR
theorem cw_X4_find_32 {R : Room} {s : State} {args : Array Value} (hts : ∀ w ∈ wsX4_find, w.before args s = true) (hR : 2 + 1 ≤ R.frames ∧ 8 + (4 + 11) + 44 ≤ R.locals) : CallW R s args RX4 RX4 32 yX4_nearer cX4_nearer 4 (some .int) wsX4_nearer ({ frames := 2, cells := 0, slots := 0, locals := 44 }) 0 0 2 := cwV 2 hts gX4_find_X4_nearer rfl rfl rfl hdV_X4_nearer hR
def lp_X4_find_31 (v_away : Nat → Int32) (w1_tasks : Int32) (w1_after : Nat → Int64) (x5 : Int32) : Nat → (Int32) → (Nat → Int32) → (Int32) → (Int32) → ((Int32) → (Nat → Int32) → Prop) → Prop
  | 0, _, _, _, _, _ => False
  | n31 + 1, v_length, v_row, x4, x6, kx => ((x5 < x6 → kx v_length v_row) ∧ (¬ (x5 < x6) → ((x4 = (-1) → kx v_length v_row) ∧ (¬ (x4 = (-1)) → vp_in v_length 60 ∧ ∀ v_row_7 : Nat → Int32, v_row_7 = upd v_row v_length.toNatClampNeg x4 → ∀ v_length_8 : Int32, v_length_8 = v_length + 1 → wp_X4_nearer v_away w1_tasks w1_after x4 (fun (r_9 : Int32) => ∀ x6_10 : Int32, x6_10 = x6 + 1 → lp_X4_find_31 v_away w1_tasks w1_after x5 n31 v_length_8 v_row_7 r_9 x6_10 kx)))))
set_option maxHeartbeats 4000000 in
set_option maxRecDepth 100000 in
theorem ml_X4_find_31 {D : va_G} {cI cJ cZ cO : ClassId} {p : Program} {l : Launch} {e : Env} {s : State} {m : MethodId} {below : List Frame} {meth : Method} {c : Code} {A : Nat → Prop} (o : Nat) (o_row : Nat) (o_away : Nat) (q1 : Nat) (q1_weight : Nat) (q1_after : Nat) (q1_before : Nat) (q1_placeOf : Nat) (q1_taskAt : Nat) (v_away : Nat → Int32) (w1_tasks : Int32) (w1_ties : Int32) (w1_after : Nat → Int64) (w1_placeOf : Nat → Int32) (w1_taskAt : Nat → Int32) (a2 : Int32) (a3 : Int32) (x5 : Int32) (C : gb_At D cI cJ cZ cO p s m meth c ([.ref o, .ref q1, .int a2, .int a3] : List Value).toArray A yX4_find cX4_find none 7 wsX4_find) (post : (Int32) → (Nat → Int32) → (Nat → Int32) → Prop) (kx : ((Int32) → (Nat → Int32) → Prop)) (hkx : ∀ (v_length : Int32) (v_row : Nat → Int32) (H : Heap) (locs : List Loc), va_P D vwCl [(o, .inr (4, [.ref o_row, .int v_length, .ref o_away])), (o_row, .inl (cI, 60, .inl v_row)), (o_away, .inl (cI, 60, .inl v_away)), (q1, .inr (2, [.ref q1_weight, .ref q1_after, .ref q1_before, .ref q1_placeOf, .ref q1_taskAt, .int w1_tasks, .int w1_ties])), (q1_after, .inl (cJ, 60, .inr (.inl w1_after))), (q1_placeOf, .inl (cI, 60, .inl w1_placeOf)), (q1_taskAt, .inl (cI, 60, .inl w1_taskAt))] H → va_D A [(o, .inr (4, [.ref o_row, .int v_length, .ref o_away])), (o_row, .inl (cI, 60, .inl v_row)), (o_away, .inl (cI, 60, .inl v_away)), (q1, .inr (2, [.ref q1_weight, .ref q1_after, .ref q1_before, .ref q1_placeOf, .ref q1_taskAt, .int w1_tasks, .int w1_ties])), (q1_after, .inl (cJ, 60, .inr (.inl w1_after))), (q1_placeOf, .inl (cI, 60, .inl w1_placeOf)), (q1_taskAt, .inl (cI, 60, .inl w1_taskAt))] → va_S A s.heap H locs → ∀ ls : Array Slot, lv_has ls 7 [] → kx v_length v_row → W p l e ({ frames := 3, cells := 0, slots := 0, locals := 90 } : Room) s m ([.ref o, .ref q1, .int a2, .int a3] : List Value).toArray below meth c H locs 0 0 (MQ below (va_Qv (fun u : (Int32) × (Nat → Int32) × (Nat → Int32) => post u.1 u.2.1 u.2.2) (gb_B D (fun u : (Int32) × (Nat → Int32) × (Nat → Int32) => [(o, .inr (4, [.ref o_row, .int u.1, .ref o_away])), (o_row, .inl (cI, 60, .inl u.2.1)), (o_away, .inl (cI, 60, .inl u.2.2)), (q1, .inr (2, [.ref q1_weight, .ref q1_after, .ref q1_before, .ref q1_placeOf, .ref q1_taskAt, .int w1_tasks, .int w1_ties])), (q1_after, .inl (cJ, 60, .inr (.inl w1_after))), (q1_placeOf, .inl (cI, 60, .inl w1_placeOf)), (q1_taskAt, .inl (cI, 60, .inl w1_taskAt))]) A) A) ([.ref o, .ref q1, .int a2, .int a3] : List Value).toArray s 0 0 A) (F0 m 80 ls [])) :
    ∀ (n31 : Nat) (v_length : Int32) (v_row : Nat → Int32) (x4 : Int32) (x6 : Int32) (H : Heap) (locs : List Loc), va_P D vwCl [(o, .inr (4, [.ref o_row, .int v_length, .ref o_away])), (o_row, .inl (cI, 60, .inl v_row)), (o_away, .inl (cI, 60, .inl v_away)), (q1, .inr (2, [.ref q1_weight, .ref q1_after, .ref q1_before, .ref q1_placeOf, .ref q1_taskAt, .int w1_tasks, .int w1_ties])), (q1_after, .inl (cJ, 60, .inr (.inl w1_after))), (q1_placeOf, .inl (cI, 60, .inl w1_placeOf)), (q1_taskAt, .inl (cI, 60, .inl w1_taskAt))] H → va_D A [(o, .inr (4, [.ref o_row, .int v_length, .ref o_away])), (o_row, .inl (cI, 60, .inl v_row)), (o_away, .inl (cI, 60, .inl v_away)), (q1, .inr (2, [.ref q1_weight, .ref q1_after, .ref q1_before, .ref q1_placeOf, .ref q1_taskAt, .int w1_tasks, .int w1_ties])), (q1_after, .inl (cJ, 60, .inr (.inl w1_after))), (q1_placeOf, .inl (cI, 60, .inl w1_placeOf)), (q1_taskAt, .inl (cI, 60, .inl w1_taskAt))] → va_S A s.heap H locs → ∀ ls : Array Slot, lv_has ls 7 [(0, .ref o), (1, .ref q1), (4, .int x4), (5, .int x5), (6, .int x6)] → lp_X4_find_31 v_away w1_tasks w1_after x5 n31 v_length v_row x4 x6 kx → W p l e ({ frames := 3, cells := 0, slots := 0, locals := 90 } : Room) s m ([.ref o, .ref q1, .int a2, .int a3] : List Value).toArray below meth c H locs 0 0 (MQ below (va_Qv (fun u : (Int32) × (Nat → Int32) × (Nat → Int32) => post u.1 u.2.1 u.2.2) (gb_B D (fun u : (Int32) × (Nat → Int32) × (Nat → Int32) => [(o, .inr (4, [.ref o_row, .int u.1, .ref o_away])), (o_row, .inl (cI, 60, .inl u.2.1)), (o_away, .inl (cI, 60, .inl u.2.2)), (q1, .inr (2, [.ref q1_weight, .ref q1_after, .ref q1_before, .ref q1_placeOf, .ref q1_taskAt, .int w1_tasks, .int w1_ties])), (q1_after, .inl (cJ, 60, .inr (.inl w1_after))), (q1_placeOf, .inl (cI, 60, .inl w1_placeOf)), (q1_taskAt, .inl (cI, 60, .inl w1_taskAt))]) A) A) ([.ref o, .ref q1, .int a2, .int a3] : List Value).toArray s 0 0 A) (F0 m 31 ls []) := by
  obtain ⟨hx, hb, hr, hml, hown, hts, hlocks, hnm, hK, hA⟩ := id C
  replace hown : s.vm.findClass RX4 = some m.cls := hown
  intro n31
  induction n31 with
  | zero => intro v_length v_row x4 x6 H locs hP hD hS ls hl h; exact False.elim h
  | succ n31 ih =>
    intro v_length v_row x4 x6 H locs hP hD hS ls hl h
    rw [lp_X4_find_31] at h
    refine lv_iload hx hb dX4_find_31 (lv_at hl 4 rfl) ?_
    refine lv_iload hx hb dX4_find_33 (lv_at hl 3 rfl) ?_
    refine lv_icmp_gt (tgt := 80) hx hb dX4_find_35 (by decide) (fun c4 => ?_) (fun c4 => ?_)
    · replace h := h.1 c4
      exact hkx v_length v_row _ _ (hP.sub [0, 1, 2, 3, 4, 5, 6] rfl) (hD.sub [0, 1, 2, 3, 4, 5, 6] (by decide) rfl) hS ls (lv_sub hl [] rfl) h
    · replace h := h.2 c4
      refine lv_iload hx hb dX4_find_38 (lv_at hl 2 rfl) ?_
      refine lv_iconst (v := (-1)) hx hb dX4_find_40 (by decide) ?_
      refine lv_icmp_eq (tgt := 80) hx hb dX4_find_41 (by decide) (fun c5 => ?_) (fun c5 => ?_)
      · replace h := h.1 c5
        exact hkx v_length v_row _ _ (hP.sub [0, 1, 2, 3, 4, 5, 6] rfl) (hD.sub [0, 1, 2, 3, 4, 5, 6] (by decide) rfl) hS ls (lv_sub hl [] rfl) h
      · replace h := h.2 c5
        refine lv_aload_n hx hb dX4_find_44 rfl (lv_at hl 0 rfl) ?_
        refine va_get (D := D) (ci := 4) (v := .ref o_row) (C := RX4) (T := TX4) (N := 3) hx hb hts in_X4_find_X4 hown hK.1 hP 0 rfl rfl 0 (by decide) (hts (.fieldLink RX4 9 "OrderKeeper$Ring" "row" "[I") (List.mem_of_getElem? (i := 7) rfl)) (fun _ h9 => h9) rfl dX4_find_45 ?_
        refine lv_aload_n hx hb dX4_find_48 rfl (lv_at hl 0 rfl) ?_
        refine va_get (D := D) (ci := 4) (v := .int v_length) (C := RX4) (T := TX4) (N := 3) hx hb hts in_X4_find_X4 hown hK.1 hP 0 rfl rfl 1 (by decide) (hts (.fieldLink RX4 28 "OrderKeeper$Ring" "length" "I") (List.mem_of_getElem? (i := 6) rfl)) (fun _ h9 => h9) rfl dX4_find_49 ?_
        refine lv_iload hx hb dX4_find_52 (lv_at hl 2 rfl) ?_
        obtain ⟨hi6, h⟩ := h
        obtain ⟨v_row_7, ev_row_7⟩ : ∃ z : Nat → Int32, z = upd v_row v_length.toNatClampNeg x4 := ⟨_, rfl⟩
        refine va_iast hx hb hK.1 hP hD hS 1 0 rfl rfl hi6 dX4_find_54 (fun H locs hP hD hS => ?_)
        replace hP : va_P D vwCl [(o, .inr (4, [.ref o_row, .int v_length, .ref o_away])), (o_row, .inl (cI, 60, .inl v_row_7)), (o_away, .inl (cI, 60, .inl v_away)), (q1, .inr (2, [.ref q1_weight, .ref q1_after, .ref q1_before, .ref q1_placeOf, .ref q1_taskAt, .int w1_tasks, .int w1_ties])), (q1_after, .inl (cJ, 60, .inr (.inl w1_after))), (q1_placeOf, .inl (cI, 60, .inl w1_placeOf)), (q1_taskAt, .inl (cI, 60, .inl w1_taskAt))] H := by rw [ev_row_7]; exact hP
        replace hD : va_D A [(o, .inr (4, [.ref o_row, .int v_length, .ref o_away])), (o_row, .inl (cI, 60, .inl v_row_7)), (o_away, .inl (cI, 60, .inl v_away)), (q1, .inr (2, [.ref q1_weight, .ref q1_after, .ref q1_before, .ref q1_placeOf, .ref q1_taskAt, .int w1_tasks, .int w1_ties])), (q1_after, .inl (cJ, 60, .inr (.inl w1_after))), (q1_placeOf, .inl (cI, 60, .inl w1_placeOf)), (q1_taskAt, .inl (cI, 60, .inl w1_taskAt))] := by rw [ev_row_7]; exact hD
        replace h := h v_row_7 ev_row_7
        refine lv_aload_n hx hb dX4_find_55 rfl (lv_at hl 0 rfl) ?_
        refine lv_dup hx hb dX4_find_56 rfl ?_
        refine va_get (D := D) (ci := 4) (v := .int v_length) (C := RX4) (T := TX4) (N := 3) hx hb hts in_X4_find_X4 hown hK.1 hP 0 rfl rfl 1 (by decide) (hts (.fieldLink RX4 28 "OrderKeeper$Ring" "length" "I") (List.mem_of_getElem? (i := 6) rfl)) (fun _ h9 => h9) rfl dX4_find_57 ?_
        refine lv_iconst (v := 1) hx hb dX4_find_60 (by decide) ?_
        refine lv_iadd hx hb dX4_find_61 ?_
        refine lv_topi (fun v_length_8 ev_length_8 => ?_)
        replace h := h v_length_8 ev_length_8
        refine va_put (D := D) (ci := 4) (v := .int v_length_8) (ty := .int) (C := RX4) (T := TX4) (N := 3) hx hb hts in_X4_find_X4 tyX4 tyX4_ok nmX4 hown hK.1 hP hD hS 0 rfl rfl 1 (by decide) (hts (.fieldLink RX4 28 "OrderKeeper$Ring" "length" "I") (List.mem_of_getElem? (i := 6) rfl)) (fun _ h9 => h9) rfl (tyX4_ok 1 (by decide)) rfl rfl (Nat.le_of_ble_eq_true rfl) dX4_find_62 (fun H locs hP hD hS => ?_)
        replace hP : va_P D vwCl [(o, .inr (4, [.ref o_row, .int v_length_8, .ref o_away])), (o_row, .inl (cI, 60, .inl v_row_7)), (o_away, .inl (cI, 60, .inl v_away)), (q1, .inr (2, [.ref q1_weight, .ref q1_after, .ref q1_before, .ref q1_placeOf, .ref q1_taskAt, .int w1_tasks, .int w1_ties])), (q1_after, .inl (cJ, 60, .inr (.inl w1_after))), (q1_placeOf, .inl (cI, 60, .inl w1_placeOf)), (q1_taskAt, .inl (cI, 60, .inl w1_taskAt))] H := hP
        replace hD : va_D A [(o, .inr (4, [.ref o_row, .int v_length_8, .ref o_away])), (o_row, .inl (cI, 60, .inl v_row_7)), (o_away, .inl (cI, 60, .inl v_away)), (q1, .inr (2, [.ref q1_weight, .ref q1_after, .ref q1_before, .ref q1_placeOf, .ref q1_taskAt, .int w1_tasks, .int w1_ties])), (q1_after, .inl (cJ, 60, .inr (.inl w1_after))), (q1_placeOf, .inl (cI, 60, .inl w1_placeOf)), (q1_taskAt, .inl (cI, 60, .inl w1_taskAt))] := hD
        refine lv_aload_n hx hb dX4_find_65 rfl (lv_at hl 0 rfl) ?_
        refine lv_aload_n hx hb dX4_find_66 rfl (lv_at hl 1 rfl) ?_
        refine lv_iload hx hb dX4_find_67 (lv_at hl 2 rfl) ?_
        refine gb_ki (wc := [(o, .inr (4, [.ref o_row, .int v_length_8, .ref o_away])), (o_away, .inl (cI, 60, .inl v_away)), (q1, .inr (2, [.ref q1_weight, .ref q1_after, .ref q1_before, .ref q1_placeOf, .ref q1_taskAt, .int w1_tasks, .int w1_ties])), (q1_after, .inl (cJ, 60, .inr (.inl w1_after)))]) (wr := [(o_row, .inl (cI, 60, .inl v_row_7)), (q1_placeOf, .inl (cI, 60, .inl w1_placeOf)), (q1_taskAt, .inl (cI, 60, .inl w1_taskAt))]) C hP hD hS [0, 2, 3, 4] [1, 5, 6] rfl rfl (by decide) (gb_rV (As := [.ref q1, .int x4]) (rest := []) C ((c_X4_nearer l D cI cJ cZ cO o o_row o_away q1 q1_weight q1_after q1_before q1_placeOf q1_taskAt v_length_8 v_away w1_tasks w1_ties w1_after x4 _ h) _) rfl (cw_X4_find_32 hts ⟨Nat.le_of_ble_eq_true rfl, Nat.le_of_ble_eq_true rfl⟩) (ci := 4) (q0 := 0) rfl rfl rfl rfl hl.1 rfl (Nat.le_of_ble_eq_true rfl) dX4_find_69 ⟨Nat.zero_le _, Nat.zero_le _⟩) ?_
        rintro r_9 _ H locs h hP hD hS
        try dsimp only at h
        replace hP : va_P D vwCl [(o_row, .inl (cI, 60, .inl v_row_7)), (q1_placeOf, .inl (cI, 60, .inl w1_placeOf)), (q1_taskAt, .inl (cI, 60, .inl w1_taskAt)), (o, .inr (4, [.ref o_row, .int v_length_8, .ref o_away])), (o_away, .inl (cI, 60, .inl v_away)), (q1, .inr (2, [.ref q1_weight, .ref q1_after, .ref q1_before, .ref q1_placeOf, .ref q1_taskAt, .int w1_tasks, .int w1_ties])), (q1_after, .inl (cJ, 60, .inr (.inl w1_after)))] H := hP
        replace hD : va_D A [(o_row, .inl (cI, 60, .inl v_row_7)), (q1_placeOf, .inl (cI, 60, .inl w1_placeOf)), (q1_taskAt, .inl (cI, 60, .inl w1_taskAt)), (o, .inr (4, [.ref o_row, .int v_length_8, .ref o_away])), (o_away, .inl (cI, 60, .inl v_away)), (q1, .inr (2, [.ref q1_weight, .ref q1_after, .ref q1_before, .ref q1_placeOf, .ref q1_taskAt, .int w1_tasks, .int w1_ties])), (q1_after, .inl (cJ, 60, .inr (.inl w1_after)))] := hD
        refine lv_istore (lv' := [(4, .int r_9), (0, .ref o), (1, .ref q1), (5, .int x5), (6, .int x6)]) hx hb dX4_find_72 hl (by decide) rfl (fun ls hl => ?_)
        obtain ⟨x6_10, ex6_10⟩ : ∃ z : Int32, z = x6 + 1 := ⟨_, rfl⟩
        refine lv_iinc (v := x6_10) (lv' := [(6, .int x6_10), (4, .int r_9), (0, .ref o), (1, .ref q1), (5, .int x5)]) hx hb dX4_find_74 hl (k := 4) rfl (by rw [ex6_10]; rfl) (by decide) rfl (fun ls hl => ?_)
        replace h := h x6_10 ex6_10
        refine lv_goto (tgt := 31) hx hb dX4_find_77 (by decide) ?_
        exact ih v_length_8 v_row_7 r_9 x6_10 _ _ (hP.sub [3, 0, 4, 5, 6, 1, 2] rfl) (hD.sub [3, 0, 4, 5, 6, 1, 2] (by decide) rfl) hS ls (lv_sub hl [2, 3, 1, 4, 0] rfl) h
def wp_X4_find (v_length : Int32) (v_row : Nat → Int32) (v_away : Nat → Int32) (w1_tasks : Int32) (w1_after : Nat → Int64) (w1_placeOf : Nat → Int32) (w1_taskAt : Nat → Int32) (a2 : Int32) (a3 : Int32) (post : (Int32) → (Nat → Int32) → (Nat → Int32) → Prop) : Prop := wp_X4_measure v_away w1_tasks w1_after w1_placeOf w1_taskAt a2 a3 (fun (v_away_1 : Nat → Int32) => vp_in a2 60 ∧ ∀ x5_3 : Int32, x5_3 = gb_min (v_away_1 a2.toNatClampNeg) 59 → (∃ n31 : Nat, lp_X4_find_31 v_away_1 w1_tasks w1_after x5_3 n31 0 v_row a2 0 (fun (v_length_11 : Int32) (v_row_12 : Nat → Int32) => post v_length_11 v_row_12 v_away_1)))
set_option maxHeartbeats 4000000 in
set_option maxRecDepth 100000 in
theorem c_X4_find (l : Launch) (D : va_G) (cI cJ cZ cO : ClassId) (o : Nat) (o_row : Nat) (o_away : Nat) (q1 : Nat) (q1_weight : Nat) (q1_after : Nat) (q1_before : Nat) (q1_placeOf : Nat) (q1_taskAt : Nat) (v_length : Int32) (v_row : Nat → Int32) (v_away : Nat → Int32) (w1_tasks : Int32) (w1_ties : Int32) (w1_after : Nat → Int64) (w1_placeOf : Nat → Int32) (w1_taskAt : Nat → Int32) (a2 : Int32) (a3 : Int32) (post : (Int32) → (Nat → Int32) → (Nat → Int32) → Prop) (hw : wp_X4_find v_length v_row v_away w1_tasks w1_after w1_placeOf w1_taskAt a2 a3 post) : gb_Cv D cI cJ cZ cO l yX4_find wsX4_find ({ frames := 3, cells := 0, slots := 0, locals := 90 }) [.ref o, .ref q1, .int a2, .int a3] [(o, .inr (4, [.ref o_row, .int v_length, .ref o_away])), (o_row, .inl (cI, 60, .inl v_row)), (o_away, .inl (cI, 60, .inl v_away)), (q1, .inr (2, [.ref q1_weight, .ref q1_after, .ref q1_before, .ref q1_placeOf, .ref q1_taskAt, .int w1_tasks, .int w1_ties])), (q1_after, .inl (cJ, 60, .inr (.inl w1_after))), (q1_placeOf, .inl (cI, 60, .inl w1_placeOf)), (q1_taskAt, .inl (cI, 60, .inl w1_taskAt))] (fun u : (Int32) × (Nat → Int32) × (Nat → Int32) => post u.1 u.2.1 u.2.2) (fun u : (Int32) × (Nat → Int32) × (Nat → Int32) => [(o, .inr (4, [.ref o_row, .int u.1, .ref o_away])), (o_row, .inl (cI, 60, .inl u.2.1)), (o_away, .inl (cI, 60, .inl u.2.2)), (q1, .inr (2, [.ref q1_weight, .ref q1_after, .ref q1_before, .ref q1_placeOf, .ref q1_taskAt, .int w1_tasks, .int w1_ties])), (q1_after, .inl (cJ, 60, .inr (.inl w1_after))), (q1_placeOf, .inl (cI, 60, .inl w1_placeOf)), (q1_taskAt, .inl (cI, 60, .inl w1_taskAt))]) 0 0 := by
  refine gb_mv (cc := cX4_find) (maxL := 7) (ret := none) (by decide) rfl (Nat.le_of_ble_eq_true rfl) ?_
  · intro p e s m below meth c A C hP hD hS ls hl
    obtain ⟨hx, hb, hr, hml, hown, hts, hlocks, hnm, hK, hA⟩ := id C
    replace hown : s.vm.findClass RX4 = some m.cls := hown
    have h := hw
    unfold wp_X4_find at h
    replace hl : lv_has ls 7 [(0, .ref o), (1, .ref q1), (2, .int a2), (3, .int a3)] := hl
    refine lv_aload_n hx hb dX4_find_0 rfl (lv_at hl 0 rfl) ?_
    refine lv_aload_n hx hb dX4_find_1 rfl (lv_at hl 1 rfl) ?_
    refine lv_iload_n hx hb dX4_find_2 rfl (lv_at hl 2 rfl) ?_
    refine lv_iload_n hx hb dX4_find_3 rfl (lv_at hl 3 rfl) ?_
    refine gb_kv (wc := [(o, .inr (4, [.ref o_row, .int v_length, .ref o_away])), (o_away, .inl (cI, 60, .inl v_away)), (q1, .inr (2, [.ref q1_weight, .ref q1_after, .ref q1_before, .ref q1_placeOf, .ref q1_taskAt, .int w1_tasks, .int w1_ties])), (q1_after, .inl (cJ, 60, .inr (.inl w1_after))), (q1_placeOf, .inl (cI, 60, .inl w1_placeOf)), (q1_taskAt, .inl (cI, 60, .inl w1_taskAt))]) (wr := [(o_row, .inl (cI, 60, .inl v_row))]) C hP hD hS [0, 2, 3, 4, 5, 6] [1] rfl rfl (by decide) (gb_rV (As := [.ref q1, .int a2, .int a3]) (rest := []) C ((c_X4_measure l D cI cJ cZ cO o o_row o_away q1 q1_weight q1_after q1_before q1_placeOf q1_taskAt v_length v_away w1_tasks w1_ties w1_after w1_placeOf w1_taskAt a2 a3 _ h) _) rfl (cw_X4_find_18 hts ⟨Nat.le_of_ble_eq_true rfl, Nat.le_of_ble_eq_true rfl⟩) (ci := 4) (q0 := 0) rfl rfl rfl rfl hl.1 rfl (Nat.le_of_ble_eq_true rfl) dX4_find_4 ⟨Nat.zero_le _, Nat.zero_le _⟩) ?_
    rintro v_away_1 H locs h hP hD hS
    try dsimp only at h
    replace hP : va_P D vwCl [(o_row, .inl (cI, 60, .inl v_row)), (o, .inr (4, [.ref o_row, .int v_length, .ref o_away])), (o_away, .inl (cI, 60, .inl v_away_1)), (q1, .inr (2, [.ref q1_weight, .ref q1_after, .ref q1_before, .ref q1_placeOf, .ref q1_taskAt, .int w1_tasks, .int w1_ties])), (q1_after, .inl (cJ, 60, .inr (.inl w1_after))), (q1_placeOf, .inl (cI, 60, .inl w1_placeOf)), (q1_taskAt, .inl (cI, 60, .inl w1_taskAt))] H := hP
    replace hD : va_D A [(o_row, .inl (cI, 60, .inl v_row)), (o, .inr (4, [.ref o_row, .int v_length, .ref o_away])), (o_away, .inl (cI, 60, .inl v_away_1)), (q1, .inr (2, [.ref q1_weight, .ref q1_after, .ref q1_before, .ref q1_placeOf, .ref q1_taskAt, .int w1_tasks, .int w1_ties])), (q1_after, .inl (cJ, 60, .inr (.inl w1_after))), (q1_placeOf, .inl (cI, 60, .inl w1_placeOf)), (q1_taskAt, .inl (cI, 60, .inl w1_taskAt))] := hD
    refine lv_iload_n hx hb dX4_find_7 rfl (lv_at hl 2 rfl) ?_
    refine lv_istore (lv' := [(4, .int a2), (0, .ref o), (1, .ref q1), (2, .int a2), (3, .int a3)]) hx hb dX4_find_8 hl (by decide) rfl (fun ls hl => ?_)
    refine lv_aload_n hx hb dX4_find_10 rfl (lv_at hl 1 rfl) ?_
    refine va_get (D := D) (ci := 4) (v := .ref o_away) (C := RX4) (T := TX4) (N := 3) hx hb hts in_X4_find_X4 hown hK.1 hP 1 rfl rfl 2 (by decide) (hts (.fieldLink RX4 15 "OrderKeeper$Ring" "away" "[I") (List.mem_of_getElem? (i := 1) rfl)) (fun _ h9 => h9) rfl dX4_find_11 ?_
    refine lv_iload_n hx hb dX4_find_14 rfl (lv_at hl 3 rfl) ?_
    obtain ⟨hi2, h⟩ := h
    refine va_iald hx hb hK.1 hP 2 0 rfl rfl hi2 dX4_find_15 ?_
    refine lv_bipush (v := 59) hx hb dX4_find_16 (by decide) ?_
    refine va_mmin hx hb (hml.trans hl.1.symm) hown (hts (.methodLink RX4 22 Lib.Math.min.name) (List.mem_of_getElem? (i := 2) rfl)) (hts (.static Lib.Math.min.name) (List.mem_of_getElem? (i := 3) rfl)) (hts (.initialized "java/lang/Math") (List.mem_of_getElem? (i := 4) rfl)) (hts (.code Lib.Math.min.name Lib.Math.min.code 2 (some .int)) (List.mem_of_getElem? (i := 5) rfl)) (Nat.le_of_ble_eq_true rfl) (Nat.le_of_ble_eq_true rfl) (Nat.zero_le _) (Nat.zero_le _) dX4_find_18 ?_
    refine lv_topi (fun x5_3 ex5_3 => ?_)
    replace h := h x5_3 ex5_3
    refine lv_istore (lv' := [(5, .int x5_3), (4, .int a2), (0, .ref o), (1, .ref q1), (2, .int a2), (3, .int a3)]) hx hb dX4_find_21 hl (by decide) rfl (fun ls hl => ?_)
    refine lv_aload_n hx hb dX4_find_23 rfl (lv_at hl 2 rfl) ?_
    refine lv_iconst (v := 0) hx hb dX4_find_24 (by decide) ?_
    refine va_put (D := D) (ci := 4) (v := .int 0) (ty := .int) (C := RX4) (T := TX4) (N := 3) hx hb hts in_X4_find_X4 tyX4 tyX4_ok nmX4 hown hK.1 hP hD hS 1 rfl rfl 1 (by decide) (hts (.fieldLink RX4 28 "OrderKeeper$Ring" "length" "I") (List.mem_of_getElem? (i := 6) rfl)) (fun _ h9 => h9) rfl (tyX4_ok 1 (by decide)) rfl rfl (Nat.le_of_ble_eq_true rfl) dX4_find_25 (fun H locs hP hD hS => ?_)
    replace hP : va_P D vwCl [(o_row, .inl (cI, 60, .inl v_row)), (o, .inr (4, [.ref o_row, .int 0, .ref o_away])), (o_away, .inl (cI, 60, .inl v_away_1)), (q1, .inr (2, [.ref q1_weight, .ref q1_after, .ref q1_before, .ref q1_placeOf, .ref q1_taskAt, .int w1_tasks, .int w1_ties])), (q1_after, .inl (cJ, 60, .inr (.inl w1_after))), (q1_placeOf, .inl (cI, 60, .inl w1_placeOf)), (q1_taskAt, .inl (cI, 60, .inl w1_taskAt))] H := hP
    replace hD : va_D A [(o_row, .inl (cI, 60, .inl v_row)), (o, .inr (4, [.ref o_row, .int 0, .ref o_away])), (o_away, .inl (cI, 60, .inl v_away_1)), (q1, .inr (2, [.ref q1_weight, .ref q1_after, .ref q1_before, .ref q1_placeOf, .ref q1_taskAt, .int w1_tasks, .int w1_ties])), (q1_after, .inl (cJ, 60, .inr (.inl w1_after))), (q1_placeOf, .inl (cI, 60, .inl w1_placeOf)), (q1_taskAt, .inl (cI, 60, .inl w1_taskAt))] := hD
    refine lv_iconst (v := 0) hx hb dX4_find_28 (by decide) ?_
    refine lv_istore (lv' := [(6, .int 0), (5, .int x5_3), (4, .int a2), (0, .ref o), (1, .ref q1), (2, .int a2), (3, .int a3)]) hx hb dX4_find_29 hl (by decide) rfl (fun ls hl => ?_)
    obtain ⟨n31, h⟩ := h
    refine ml_X4_find_31 o o_row o_away q1 q1_weight q1_after q1_before q1_placeOf q1_taskAt v_away_1 w1_tasks w1_ties w1_after w1_placeOf w1_taskAt a2 a3 x5_3 C post _ ?_ n31 0 v_row a2 0 _ _ (hP.sub [1, 0, 2, 3, 4, 5, 6] rfl) (hD.sub [1, 0, 2, 3, 4, 5, 6] (by decide) rfl) hS ls (lv_sub hl [3, 4, 2, 1, 0] rfl) h
    intro v_length_11 v_row_12 H locs hP hD hS ls hl h
    exact gb_retv C (v_length_11, v_row_12, v_away_1) (hP.sub [0, 1, 2, 3, 4, 5, 6] rfl) (hD.sub [0, 1, 2, 3, 4, 5, 6] (by decide) rfl) hS h dX4_find_80
/-! OrderKeeper$Bundle.add(II)I -/
theorem in_X0_add_X0 : ∀ w ∈ wsX00, w ∈ wsX0_add := fun _ h => List.mem_cons_of_mem _ (List.mem_append_right _ h)
theorem hdS_X0_add : yX0_add.cls ≠ "java/lang/invoke/MethodHandle" ∧ yX0_add.cls ≠ "java/lang/invoke/VarHandle" ∧ (parseMethodDescriptor yX0_add.desc).map (fun d => d.parameters.length) = some 2 := by decide +kernel
theorem hdV_X0_add : yX0_add.cls = RX0 ∧ yX0_add.cls ≠ "java/lang/invoke/MethodHandle" ∧ yX0_add.cls ≠ "java/lang/invoke/VarHandle" ∧ (parseMethodDescriptor yX0_add.desc).map (fun d => d.parameters.length) = some 2 := ⟨rfl, hdS_X0_add⟩
def wp_X0_add (v_size : Int32) (v_from : Nat → Int32) (v_to : Nat → Int32) (a1 : Int32) (a2 : Int32) (post : Int32 → (Int32) → (Nat → Int32) → (Nat → Int32) → Prop) : Prop := vp_in v_size 100 ∧ ∀ v_from_2 : Nat → Int32, v_from_2 = upd v_from v_size.toNatClampNeg a1 → vp_in v_size 100 ∧ ∀ v_to_4 : Nat → Int32, v_to_4 = upd v_to v_size.toNatClampNeg a2 → ∀ v_size_5 : Int32, v_size_5 = v_size + 1 → post v_size_5 v_size_5 v_from_2 v_to_4
set_option maxHeartbeats 4000000 in
set_option maxRecDepth 100000 in
theorem c_X0_add (l : Launch) (D : va_G) (cI cJ cZ cO : ClassId) (o : Nat) (o_from : Nat) (o_to : Nat) (v_size : Int32) (v_from : Nat → Int32) (v_to : Nat → Int32) (a1 : Int32) (a2 : Int32) (post : Int32 → (Int32) → (Nat → Int32) → (Nat → Int32) → Prop) (hw : wp_X0_add v_size v_from v_to a1 a2 post) : gb_Ci D cI cJ cZ cO l yX0_add wsX0_add ({ frames := 0, cells := 0, slots := 0, locals := 0 }) [.ref o, .int a1, .int a2] [(o, .inr (0, [.ref o_from, .ref o_to, .int v_size])), (o_from, .inl (cI, 100, .inl v_from)), (o_to, .inl (cI, 100, .inl v_to))] (fun (r : Int32) (u : (Int32) × (Nat → Int32) × (Nat → Int32)) => post r u.1 u.2.1 u.2.2) (fun u : (Int32) × (Nat → Int32) × (Nat → Int32) => [(o, .inr (0, [.ref o_from, .ref o_to, .int u.1])), (o_from, .inl (cI, 100, .inl u.2.1)), (o_to, .inl (cI, 100, .inl u.2.2))]) 0 0 := by
  refine gb_mi (cc := cX0_add) (maxL := 3) (ret := (some .int)) (by decide) rfl (Nat.le_of_ble_eq_true rfl) ?_
  · intro p e s m below meth c A C hP hD hS ls hl
    obtain ⟨hx, hb, hr, hml, hown, hts, hlocks, hnm, hK, hA⟩ := id C
    replace hown : s.vm.findClass RX0 = some m.cls := hown
    have h := hw
    unfold wp_X0_add at h
    replace hl : lv_has ls 3 [(0, .ref o), (1, .int a1), (2, .int a2)] := hl
    refine lv_aload_n hx hb dX0_add_0 rfl (lv_at hl 0 rfl) ?_
    refine va_get (D := D) (ci := 0) (v := .ref o_from) (C := RX0) (T := TX0) (N := 3) hx hb hts in_X0_add_X0 hown hK.1 hP 0 rfl rfl 0 (by decide) (hts (.fieldLink RX0 9 "OrderKeeper$Bundle" "from" "[I") (List.mem_of_getElem? (i := 1) rfl)) (fun _ h9 => h9) rfl dX0_add_1 ?_
    refine lv_aload_n hx hb dX0_add_4 rfl (lv_at hl 0 rfl) ?_
    refine va_get (D := D) (ci := 0) (v := .int v_size) (C := RX0) (T := TX0) (N := 3) hx hb hts in_X0_add_X0 hown hK.1 hP 0 rfl rfl 2 (by decide) (hts (.fieldLink RX0 18 "OrderKeeper$Bundle" "size" "I") (List.mem_of_getElem? (i := 2) rfl)) (fun _ h9 => h9) rfl dX0_add_5 ?_
    refine lv_iload_n hx hb dX0_add_8 rfl (lv_at hl 1 rfl) ?_
    obtain ⟨hi1, h⟩ := h
    obtain ⟨v_from_2, ev_from_2⟩ : ∃ z : Nat → Int32, z = upd v_from v_size.toNatClampNeg a1 := ⟨_, rfl⟩
    refine va_iast hx hb hK.1 hP hD hS 1 0 rfl rfl hi1 dX0_add_9 (fun H locs hP hD hS => ?_)
    replace hP : va_P D vwCl [(o, .inr (0, [.ref o_from, .ref o_to, .int v_size])), (o_from, .inl (cI, 100, .inl v_from_2)), (o_to, .inl (cI, 100, .inl v_to))] H := by rw [ev_from_2]; exact hP
    replace hD : va_D A [(o, .inr (0, [.ref o_from, .ref o_to, .int v_size])), (o_from, .inl (cI, 100, .inl v_from_2)), (o_to, .inl (cI, 100, .inl v_to))] := by rw [ev_from_2]; exact hD
    replace h := h v_from_2 ev_from_2
    refine lv_aload_n hx hb dX0_add_10 rfl (lv_at hl 0 rfl) ?_
    refine va_get (D := D) (ci := 0) (v := .ref o_to) (C := RX0) (T := TX0) (N := 3) hx hb hts in_X0_add_X0 hown hK.1 hP 0 rfl rfl 1 (by decide) (hts (.fieldLink RX0 15 "OrderKeeper$Bundle" "to" "[I") (List.mem_of_getElem? (i := 3) rfl)) (fun _ h9 => h9) rfl dX0_add_11 ?_
    refine lv_aload_n hx hb dX0_add_14 rfl (lv_at hl 0 rfl) ?_
    refine va_get (D := D) (ci := 0) (v := .int v_size) (C := RX0) (T := TX0) (N := 3) hx hb hts in_X0_add_X0 hown hK.1 hP 0 rfl rfl 2 (by decide) (hts (.fieldLink RX0 18 "OrderKeeper$Bundle" "size" "I") (List.mem_of_getElem? (i := 2) rfl)) (fun _ h9 => h9) rfl dX0_add_15 ?_
    refine lv_iload_n hx hb dX0_add_18 rfl (lv_at hl 2 rfl) ?_
    obtain ⟨hi3, h⟩ := h
    obtain ⟨v_to_4, ev_to_4⟩ : ∃ z : Nat → Int32, z = upd v_to v_size.toNatClampNeg a2 := ⟨_, rfl⟩
    refine va_iast hx hb hK.1 hP hD hS 2 0 rfl rfl hi3 dX0_add_19 (fun H locs hP hD hS => ?_)
    replace hP : va_P D vwCl [(o, .inr (0, [.ref o_from, .ref o_to, .int v_size])), (o_from, .inl (cI, 100, .inl v_from_2)), (o_to, .inl (cI, 100, .inl v_to_4))] H := by rw [ev_to_4]; exact hP
    replace hD : va_D A [(o, .inr (0, [.ref o_from, .ref o_to, .int v_size])), (o_from, .inl (cI, 100, .inl v_from_2)), (o_to, .inl (cI, 100, .inl v_to_4))] := by rw [ev_to_4]; exact hD
    replace h := h v_to_4 ev_to_4
    refine lv_aload_n hx hb dX0_add_20 rfl (lv_at hl 0 rfl) ?_
    refine lv_dup hx hb dX0_add_21 rfl ?_
    refine va_get (D := D) (ci := 0) (v := .int v_size) (C := RX0) (T := TX0) (N := 3) hx hb hts in_X0_add_X0 hown hK.1 hP 0 rfl rfl 2 (by decide) (hts (.fieldLink RX0 18 "OrderKeeper$Bundle" "size" "I") (List.mem_of_getElem? (i := 2) rfl)) (fun _ h9 => h9) rfl dX0_add_22 ?_
    refine lv_iconst (v := 1) hx hb dX0_add_25 (by decide) ?_
    refine lv_iadd hx hb dX0_add_26 ?_
    refine lv_topi (fun v_size_5 ev_size_5 => ?_)
    replace h := h v_size_5 ev_size_5
    refine va_put (D := D) (ci := 0) (v := .int v_size_5) (ty := .int) (C := RX0) (T := TX0) (N := 3) hx hb hts in_X0_add_X0 tyX0 tyX0_ok nmX0 hown hK.1 hP hD hS 0 rfl rfl 2 (by decide) (hts (.fieldLink RX0 18 "OrderKeeper$Bundle" "size" "I") (List.mem_of_getElem? (i := 2) rfl)) (fun _ h9 => h9) rfl (tyX0_ok 2 (by decide)) rfl rfl (Nat.le_of_ble_eq_true rfl) dX0_add_27 (fun H locs hP hD hS => ?_)
    replace hP : va_P D vwCl [(o, .inr (0, [.ref o_from, .ref o_to, .int v_size_5])), (o_from, .inl (cI, 100, .inl v_from_2)), (o_to, .inl (cI, 100, .inl v_to_4))] H := hP
    replace hD : va_D A [(o, .inr (0, [.ref o_from, .ref o_to, .int v_size_5])), (o_from, .inl (cI, 100, .inl v_from_2)), (o_to, .inl (cI, 100, .inl v_to_4))] := hD
    refine lv_aload_n hx hb dX0_add_30 rfl (lv_at hl 0 rfl) ?_
    refine va_get (D := D) (ci := 0) (v := .int v_size_5) (C := RX0) (T := TX0) (N := 3) hx hb hts in_X0_add_X0 hown hK.1 hP 0 rfl rfl 2 (by decide) (hts (.fieldLink RX0 18 "OrderKeeper$Bundle" "size" "I") (List.mem_of_getElem? (i := 2) rfl)) (fun _ h9 => h9) rfl dX0_add_31 ?_
    exact gb_reti C (v_size_5, v_from_2, v_to_4) (hP.sub [0, 1, 2] rfl) (hD.sub [0, 1, 2] (by decide) rfl) hS h dX0_add_34
/-! OrderKeeper$Past.forget()V -/
theorem in_X3_forget_X3 : ∀ w ∈ wsX30, w ∈ wsX3_forget := fun _ h => List.mem_cons_of_mem _ (List.mem_append_right _ h)
theorem hdS_X3_forget : yX3_forget.cls ≠ "java/lang/invoke/MethodHandle" ∧ yX3_forget.cls ≠ "java/lang/invoke/VarHandle" ∧ (parseMethodDescriptor yX3_forget.desc).map (fun d => d.parameters.length) = some 0 := by decide +kernel
theorem hdV_X3_forget : yX3_forget.cls = RX3 ∧ yX3_forget.cls ≠ "java/lang/invoke/MethodHandle" ∧ yX3_forget.cls ≠ "java/lang/invoke/VarHandle" ∧ (parseMethodDescriptor yX3_forget.desc).map (fun d => d.parameters.length) = some 0 := ⟨rfl, hdS_X3_forget⟩
def wp_X3_forget (v_remembered : Int32) (post : (Int32) → Prop) : Prop := post 0
set_option maxHeartbeats 4000000 in
set_option maxRecDepth 100000 in
theorem c_X3_forget (l : Launch) (D : va_G) (cI cJ cZ cO : ClassId) (o : Nat) (o_held : Nat) (o_kept : Nat) (v_remembered : Int32) (v_next : Int32) (post : (Int32) → Prop) (hw : wp_X3_forget v_remembered post) : gb_Cv D cI cJ cZ cO l yX3_forget wsX3_forget ({ frames := 0, cells := 0, slots := 0, locals := 0 }) [.ref o] [(o, .inr (3, [.ref o_held, .int v_remembered, .ref o_kept, .int v_next]))] (fun u : (Int32) => post u) (fun u : (Int32) => [(o, .inr (3, [.ref o_held, .int u, .ref o_kept, .int v_next]))]) 0 0 := by
  refine gb_mv (cc := cX3_forget) (maxL := 1) (ret := none) (by decide) rfl (Nat.le_of_ble_eq_true rfl) ?_
  · intro p e s m below meth c A C hP hD hS ls hl
    obtain ⟨hx, hb, hr, hml, hown, hts, hlocks, hnm, hK, hA⟩ := id C
    replace hown : s.vm.findClass RX3 = some m.cls := hown
    have h := hw
    unfold wp_X3_forget at h
    replace hl : lv_has ls 1 [(0, .ref o)] := hl
    refine lv_aload_n hx hb dX3_forget_0 rfl (lv_at hl 0 rfl) ?_
    refine lv_iconst (v := 0) hx hb dX3_forget_1 (by decide) ?_
    refine va_put (D := D) (ci := 3) (v := .int 0) (ty := .int) (C := RX3) (T := TX3) (N := 4) hx hb hts in_X3_forget_X3 tyX3 tyX3_ok nmX3 hown hK.1 hP hD hS 0 rfl rfl 1 (by decide) (hts (.fieldLink RX3 30 "OrderKeeper$Past" "remembered" "I") (List.mem_of_getElem? (i := 1) rfl)) (fun _ h9 => h9) rfl (tyX3_ok 1 (by decide)) rfl rfl (Nat.le_of_ble_eq_true rfl) dX3_forget_2 (fun H locs hP hD hS => ?_)
    replace hP : va_P D vwCl [(o, .inr (3, [.ref o_held, .int 0, .ref o_kept, .int v_next]))] H := hP
    replace hD : va_D A [(o, .inr (3, [.ref o_held, .int 0, .ref o_kept, .int v_next]))] := hD
    exact gb_retv C (0) (hP.sub [0] rfl) (hD.sub [0] (by decide) rfl) hS h dX3_forget_5
/-! OrderKeeper$Past.hold(LOrderKeeper$Net;)V -/
theorem in_X3_hold_X3 : ∀ w ∈ wsX30, w ∈ wsX3_hold := fun _ h => List.mem_cons_of_mem _ (List.mem_append_left _ (List.mem_append_right _ h))
theorem hdS_X3_hold : yX3_hold.cls ≠ "java/lang/invoke/MethodHandle" ∧ yX3_hold.cls ≠ "java/lang/invoke/VarHandle" ∧ (parseMethodDescriptor yX3_hold.desc).map (fun d => d.parameters.length) = some 1 := by decide +kernel
theorem hdV_X3_hold : yX3_hold.cls = RX3 ∧ yX3_hold.cls ≠ "java/lang/invoke/MethodHandle" ∧ yX3_hold.cls ≠ "java/lang/invoke/VarHandle" ∧ (parseMethodDescriptor yX3_hold.desc).map (fun d => d.parameters.length) = some 1 := ⟨rfl, hdS_X3_hold⟩
theorem cw_X3_hold_22 {R : Room} {s : State} {args : Array Value} (hts : ∀ w ∈ wsX3_hold, w.before args s = true) (hR : 1 + 1 ≤ R.frames ∧ 8 + (2 + 11) + 64 ≤ R.locals) : CallW R s args RX3 RX2 22 yX2_copyFrom cX2_copyFrom 2 none wsX2_copyFrom ({ frames := 1, cells := 0, slots := 0, locals := 64 }) 0 0 1 := cwV 1 hts gX3_hold_X2_copyFrom rfl rfl rfl hdV_X2_copyFrom hR
def wp_X3_hold (v_held_tasks : Int32) (v_held_ties : Int32) (v_held_weight : Nat → Int32) (v_held_after : Nat → Int64) (v_held_before : Nat → Int64) (v_held_placeOf : Nat → Int32) (v_held_taskAt : Nat → Int32) (w1_tasks : Int32) (w1_ties : Int32) (w1_weight : Nat → Int32) (w1_after : Nat → Int64) (w1_before : Nat → Int64) (w1_placeOf : Nat → Int32) (w1_taskAt : Nat → Int32) (post : (Int32) → (Int32) → (Nat → Int32) → (Nat → Int64) → (Nat → Int64) → (Nat → Int32) → (Nat → Int32) → Prop) : Prop := wp_X2_copyFrom v_held_tasks v_held_ties v_held_weight v_held_after v_held_before v_held_placeOf v_held_taskAt w1_tasks w1_ties w1_weight w1_after w1_before w1_placeOf w1_taskAt (fun (v_held_tasks_1 : Int32) (v_held_ties_2 : Int32) (v_held_weight_3 : Nat → Int32) (v_held_after_4 : Nat → Int64) (v_held_before_5 : Nat → Int64) (v_held_placeOf_6 : Nat → Int32) (v_held_taskAt_7 : Nat → Int32) => post v_held_tasks_1 v_held_ties_2 v_held_weight_3 v_held_after_4 v_held_before_5 v_held_placeOf_6 v_held_taskAt_7)
set_option maxHeartbeats 4000000 in
set_option maxRecDepth 100000 in
theorem c_X3_hold (l : Launch) (D : va_G) (cI cJ cZ cO : ClassId) (o : Nat) (o_held : Nat) (o_kept : Nat) (o_held_weight : Nat) (o_held_after : Nat) (o_held_before : Nat) (o_held_placeOf : Nat) (o_held_taskAt : Nat) (q1 : Nat) (q1_weight : Nat) (q1_after : Nat) (q1_before : Nat) (q1_placeOf : Nat) (q1_taskAt : Nat) (v_remembered : Int32) (v_next : Int32) (v_held_tasks : Int32) (v_held_ties : Int32) (v_held_weight : Nat → Int32) (v_held_after : Nat → Int64) (v_held_before : Nat → Int64) (v_held_placeOf : Nat → Int32) (v_held_taskAt : Nat → Int32) (w1_tasks : Int32) (w1_ties : Int32) (w1_weight : Nat → Int32) (w1_after : Nat → Int64) (w1_before : Nat → Int64) (w1_placeOf : Nat → Int32) (w1_taskAt : Nat → Int32) (post : (Int32) → (Int32) → (Nat → Int32) → (Nat → Int64) → (Nat → Int64) → (Nat → Int32) → (Nat → Int32) → Prop) (hw : wp_X3_hold v_held_tasks v_held_ties v_held_weight v_held_after v_held_before v_held_placeOf v_held_taskAt w1_tasks w1_ties w1_weight w1_after w1_before w1_placeOf w1_taskAt post) : gb_Cv D cI cJ cZ cO l yX3_hold wsX3_hold ({ frames := 2, cells := 0, slots := 0, locals := 85 }) [.ref o, .ref q1] [(o, .inr (3, [.ref o_held, .int v_remembered, .ref o_kept, .int v_next])), (o_held, .inr (2, [.ref o_held_weight, .ref o_held_after, .ref o_held_before, .ref o_held_placeOf, .ref o_held_taskAt, .int v_held_tasks, .int v_held_ties])), (o_held_weight, .inl (cI, 60, .inl v_held_weight)), (o_held_after, .inl (cJ, 60, .inr (.inl v_held_after))), (o_held_before, .inl (cJ, 60, .inr (.inl v_held_before))), (o_held_placeOf, .inl (cI, 60, .inl v_held_placeOf)), (o_held_taskAt, .inl (cI, 60, .inl v_held_taskAt)), (q1, .inr (2, [.ref q1_weight, .ref q1_after, .ref q1_before, .ref q1_placeOf, .ref q1_taskAt, .int w1_tasks, .int w1_ties])), (q1_weight, .inl (cI, 60, .inl w1_weight)), (q1_after, .inl (cJ, 60, .inr (.inl w1_after))), (q1_before, .inl (cJ, 60, .inr (.inl w1_before))), (q1_placeOf, .inl (cI, 60, .inl w1_placeOf)), (q1_taskAt, .inl (cI, 60, .inl w1_taskAt))] (fun u : (Int32) × (Int32) × (Nat → Int32) × (Nat → Int64) × (Nat → Int64) × (Nat → Int32) × (Nat → Int32) => post u.1 u.2.1 u.2.2.1 u.2.2.2.1 u.2.2.2.2.1 u.2.2.2.2.2.1 u.2.2.2.2.2.2) (fun u : (Int32) × (Int32) × (Nat → Int32) × (Nat → Int64) × (Nat → Int64) × (Nat → Int32) × (Nat → Int32) => [(o, .inr (3, [.ref o_held, .int v_remembered, .ref o_kept, .int v_next])), (o_held, .inr (2, [.ref o_held_weight, .ref o_held_after, .ref o_held_before, .ref o_held_placeOf, .ref o_held_taskAt, .int u.1, .int u.2.1])), (o_held_weight, .inl (cI, 60, .inl u.2.2.1)), (o_held_after, .inl (cJ, 60, .inr (.inl u.2.2.2.1))), (o_held_before, .inl (cJ, 60, .inr (.inl u.2.2.2.2.1))), (o_held_placeOf, .inl (cI, 60, .inl u.2.2.2.2.2.1)), (o_held_taskAt, .inl (cI, 60, .inl u.2.2.2.2.2.2)), (q1, .inr (2, [.ref q1_weight, .ref q1_after, .ref q1_before, .ref q1_placeOf, .ref q1_taskAt, .int w1_tasks, .int w1_ties])), (q1_weight, .inl (cI, 60, .inl w1_weight)), (q1_after, .inl (cJ, 60, .inr (.inl w1_after))), (q1_before, .inl (cJ, 60, .inr (.inl w1_before))), (q1_placeOf, .inl (cI, 60, .inl w1_placeOf)), (q1_taskAt, .inl (cI, 60, .inl w1_taskAt))]) 0 0 := by
  refine gb_mv (cc := cX3_hold) (maxL := 2) (ret := none) (by decide) rfl (Nat.le_of_ble_eq_true rfl) ?_
  · intro p e s m below meth c A C hP hD hS ls hl
    obtain ⟨hx, hb, hr, hml, hown, hts, hlocks, hnm, hK, hA⟩ := id C
    replace hown : s.vm.findClass RX3 = some m.cls := hown
    have h := hw
    unfold wp_X3_hold at h
    replace hl : lv_has ls 2 [(0, .ref o), (1, .ref q1)] := hl
    refine lv_aload_n hx hb dX3_hold_0 rfl (lv_at hl 0 rfl) ?_
    refine va_get (D := D) (ci := 3) (v := .ref o_held) (C := RX3) (T := TX3) (N := 4) hx hb hts in_X3_hold_X3 hown hK.1 hP 0 rfl rfl 0 (by decide) (hts (.fieldLink RX3 12 "OrderKeeper$Past" "held" "LOrderKeeper$Net;") (List.mem_of_getElem? (i := 1) rfl)) (fun _ h9 => h9) rfl dX3_hold_1 ?_
    refine lv_aload_n hx hb dX3_hold_4 rfl (lv_at hl 1 rfl) ?_
    refine gb_kv (wc := [(o_held, .inr (2, [.ref o_held_weight, .ref o_held_after, .ref o_held_before, .ref o_held_placeOf, .ref o_held_taskAt, .int v_held_tasks, .int v_held_ties])), (o_held_weight, .inl (cI, 60, .inl v_held_weight)), (o_held_after, .inl (cJ, 60, .inr (.inl v_held_after))), (o_held_before, .inl (cJ, 60, .inr (.inl v_held_before))), (o_held_placeOf, .inl (cI, 60, .inl v_held_placeOf)), (o_held_taskAt, .inl (cI, 60, .inl v_held_taskAt)), (q1, .inr (2, [.ref q1_weight, .ref q1_after, .ref q1_before, .ref q1_placeOf, .ref q1_taskAt, .int w1_tasks, .int w1_ties])), (q1_weight, .inl (cI, 60, .inl w1_weight)), (q1_after, .inl (cJ, 60, .inr (.inl w1_after))), (q1_before, .inl (cJ, 60, .inr (.inl w1_before))), (q1_placeOf, .inl (cI, 60, .inl w1_placeOf)), (q1_taskAt, .inl (cI, 60, .inl w1_taskAt))]) (wr := [(o, .inr (3, [.ref o_held, .int v_remembered, .ref o_kept, .int v_next]))]) C hP hD hS [1, 2, 3, 4, 5, 6, 7, 8, 9, 10, 11, 12] [0] rfl rfl (by decide) (gb_rV (As := [.ref q1]) (rest := []) C ((c_X2_copyFrom l D cI cJ cZ cO o_held o_held_weight o_held_after o_held_before o_held_placeOf o_held_taskAt q1 q1_weight q1_after q1_before q1_placeOf q1_taskAt v_held_tasks v_held_ties v_held_weight v_held_after v_held_before v_held_placeOf v_held_taskAt w1_tasks w1_ties w1_weight w1_after w1_before w1_placeOf w1_taskAt _ h) _) rfl (cw_X3_hold_22 hts ⟨Nat.le_of_ble_eq_true rfl, Nat.le_of_ble_eq_true rfl⟩) (ci := 2) (q0 := 0) rfl rfl rfl rfl hl.1 rfl (Nat.le_of_ble_eq_true rfl) dX3_hold_5 ⟨Nat.zero_le _, Nat.zero_le _⟩) ?_
    rintro ⟨v_held_tasks_1, v_held_ties_2, v_held_weight_3, v_held_after_4, v_held_before_5, v_held_placeOf_6, v_held_taskAt_7⟩ H locs h hP hD hS
    try dsimp only at h
    replace hP : va_P D vwCl [(o, .inr (3, [.ref o_held, .int v_remembered, .ref o_kept, .int v_next])), (o_held, .inr (2, [.ref o_held_weight, .ref o_held_after, .ref o_held_before, .ref o_held_placeOf, .ref o_held_taskAt, .int v_held_tasks_1, .int v_held_ties_2])), (o_held_weight, .inl (cI, 60, .inl v_held_weight_3)), (o_held_after, .inl (cJ, 60, .inr (.inl v_held_after_4))), (o_held_before, .inl (cJ, 60, .inr (.inl v_held_before_5))), (o_held_placeOf, .inl (cI, 60, .inl v_held_placeOf_6)), (o_held_taskAt, .inl (cI, 60, .inl v_held_taskAt_7)), (q1, .inr (2, [.ref q1_weight, .ref q1_after, .ref q1_before, .ref q1_placeOf, .ref q1_taskAt, .int w1_tasks, .int w1_ties])), (q1_weight, .inl (cI, 60, .inl w1_weight)), (q1_after, .inl (cJ, 60, .inr (.inl w1_after))), (q1_before, .inl (cJ, 60, .inr (.inl w1_before))), (q1_placeOf, .inl (cI, 60, .inl w1_placeOf)), (q1_taskAt, .inl (cI, 60, .inl w1_taskAt))] H := hP
    replace hD : va_D A [(o, .inr (3, [.ref o_held, .int v_remembered, .ref o_kept, .int v_next])), (o_held, .inr (2, [.ref o_held_weight, .ref o_held_after, .ref o_held_before, .ref o_held_placeOf, .ref o_held_taskAt, .int v_held_tasks_1, .int v_held_ties_2])), (o_held_weight, .inl (cI, 60, .inl v_held_weight_3)), (o_held_after, .inl (cJ, 60, .inr (.inl v_held_after_4))), (o_held_before, .inl (cJ, 60, .inr (.inl v_held_before_5))), (o_held_placeOf, .inl (cI, 60, .inl v_held_placeOf_6)), (o_held_taskAt, .inl (cI, 60, .inl v_held_taskAt_7)), (q1, .inr (2, [.ref q1_weight, .ref q1_after, .ref q1_before, .ref q1_placeOf, .ref q1_taskAt, .int w1_tasks, .int w1_ties])), (q1_weight, .inl (cI, 60, .inl w1_weight)), (q1_after, .inl (cJ, 60, .inr (.inl w1_after))), (q1_before, .inl (cJ, 60, .inr (.inl w1_before))), (q1_placeOf, .inl (cI, 60, .inl w1_placeOf)), (q1_taskAt, .inl (cI, 60, .inl w1_taskAt))] := hD
    exact gb_retv C (v_held_tasks_1, v_held_ties_2, v_held_weight_3, v_held_after_4, v_held_before_5, v_held_placeOf_6, v_held_taskAt_7) (hP.sub [0, 1, 2, 3, 4, 5, 6, 7, 8, 9, 10, 11, 12] rfl) (hD.sub [0, 1, 2, 3, 4, 5, 6, 7, 8, 9, 10, 11, 12] (by decide) rfl) hS h dX3_hold_8
