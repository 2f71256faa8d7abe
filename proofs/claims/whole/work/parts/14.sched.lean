/-! OrderKeeper$Schedule.endTasks(II)V -/
theorem in_X5_endTasks_X5 : ∀ w ∈ wsX50, w ∈ wsX5_endTasks := fun _ h => List.mem_cons_of_mem _ (List.mem_append_right _ h)
theorem hdS_X5_endTasks : yX5_endTasks.cls ≠ "java/lang/invoke/MethodHandle" ∧ yX5_endTasks.cls ≠ "java/lang/invoke/VarHandle" ∧ (parseMethodDescriptor yX5_endTasks.desc).map (fun d => d.parameters.length) = some 2 := by decide +kernel
theorem hdV_X5_endTasks : yX5_endTasks.cls = RX5 ∧ yX5_endTasks.cls ≠ "java/lang/invoke/MethodHandle" ∧ yX5_endTasks.cls ≠ "java/lang/invoke/VarHandle" ∧ (parseMethodDescriptor yX5_endTasks.desc).map (fun d => d.parameters.length) = some 2 := ⟨rfl, hdS_X5_endTasks⟩
theorem cw_X5_endTasks_56 {R : Room} {s : State} {args : Array Value} (hts : ∀ w ∈ wsX5_endTasks, w.before args s = true) (hN : gb_N s) (hR : 0 + 1 ≤ R.frames ∧ 8 + (1 + 11) + 0 ≤ R.locals) : va_CN R s args RX5 56 yX7_bit "OrderKeeper" cX7_bit 1 (some .long) wsX7_bit ({ frames := 0, cells := 0, slots := 0, locals := 0 }) 0 0 1 ∧ (Cond.static yX7_bit).before args s = true ∧ True := ⟨va_cnB 1 hts gX5_endTasks_X7_bit_n56 rfl rfl rfl (hN.1 (RX5, 56, yX7_bit, "OrderKeeper") (List.mem_of_getElem? (i := 11) rfl)) (hts (.initialized RX7) (List.mem_of_getElem? (i := 5) rfl)) hdS_X7_bit hR, (hts (.static yX7_bit) (List.mem_of_getElem? (i := 4) rfl)), trivial⟩
def lp_X5_endTasks_2 (v_endOf : Nat → Int32) (x1 : Int32) (x2 : Int32) : Nat → (Int64) → (Nat → Int32) → (Int32) → ((Int64) → (Nat → Int32) → Prop) → Prop
  | 0, _, _, _, _ => False
  | n2 + 1, v_done, v_taskOf, x3, kx => ((x2 ≤ x3 → kx v_done v_taskOf) ∧ (¬ (x2 ≤ x3) → vp_in x3 8 ∧ (((v_taskOf x3.toNatClampNeg) = (-1) → ∀ x3_4 : Int32, x3_4 = x3 + 1 → lp_X5_endTasks_2 v_endOf x1 x2 n2 v_done v_taskOf x3_4 kx) ∧ (¬ ((v_taskOf x3.toNatClampNeg) = (-1)) → vp_in x3 8 ∧ (((v_endOf x3.toNatClampNeg) = x1 → vp_in x3 8 ∧ wp_X7_bit (v_taskOf x3.toNatClampNeg) (fun (r_9 : Int64) => ∀ v_done_10 : Int64, v_done_10 = v_done ||| r_9 → vp_in x3 8 ∧ ∀ v_taskOf_12 : Nat → Int32, v_taskOf_12 = upd v_taskOf x3.toNatClampNeg (-1) → ∀ x3_13 : Int32, x3_13 = x3 + 1 → lp_X5_endTasks_2 v_endOf x1 x2 n2 v_done_10 v_taskOf_12 x3_13 kx)) ∧ (¬ ((v_endOf x3.toNatClampNeg) = x1) → ∀ x3_7 : Int32, x3_7 = x3 + 1 → lp_X5_endTasks_2 v_endOf x1 x2 n2 v_done v_taskOf x3_7 kx))))))
set_option maxHeartbeats 4000000 in
set_option maxRecDepth 100000 in
theorem ml_X5_endTasks_2 {D : va_G} {cI cJ cZ cO : ClassId} {p : Program} {l : Launch} {e : Env} {s : State} {m : MethodId} {below : List Frame} {meth : Method} {c : Code} {A : Nat → Prop} (o : Nat) (o_begin : Nat) (o_worker : Nat) (o_taskOf : Nat) (o_endOf : Nat) (v_tasks : Int32) (v_begun : Int64) (v_endOf : Nat → Int32) (a1 : Int32) (a2 : Int32) (x1 : Int32) (x2 : Int32) (C : gb_At D cI cJ cZ cO p s m meth c ([.ref o, .int a1, .int a2] : List Value).toArray A yX5_endTasks cX5_endTasks none 4 wsX5_endTasks) (post : (Int64) → (Nat → Int32) → Prop) (kx : ((Int64) → (Nat → Int32) → Prop)) (hkx : ∀ (v_done : Int64) (v_taskOf : Nat → Int32) (H : Heap) (locs : List Loc), va_P D vwCl [(o, .inr (5, [.ref o_begin, .ref o_worker, .int v_tasks, .ref o_taskOf, .ref o_endOf, .long v_begun, .long v_done])), (o_taskOf, .inl (cI, 8, .inl v_taskOf)), (o_endOf, .inl (cI, 8, .inl v_endOf))] H → va_D A [(o, .inr (5, [.ref o_begin, .ref o_worker, .int v_tasks, .ref o_taskOf, .ref o_endOf, .long v_begun, .long v_done])), (o_taskOf, .inl (cI, 8, .inl v_taskOf)), (o_endOf, .inl (cI, 8, .inl v_endOf))] → va_S A s.heap H locs → ∀ ls : Array Slot, lv_has ls 4 [] → kx v_done v_taskOf → W p l e ({ frames := 1, cells := 0, slots := 0, locals := 20 } : Room) s m ([.ref o, .int a1, .int a2] : List Value).toArray below meth c H locs 0 0 (MQ below (va_Qv (fun u : (Int64) × (Nat → Int32) => post u.1 u.2) (gb_B D (fun u : (Int64) × (Nat → Int32) => [(o, .inr (5, [.ref o_begin, .ref o_worker, .int v_tasks, .ref o_taskOf, .ref o_endOf, .long v_begun, .long u.1])), (o_taskOf, .inl (cI, 8, .inl u.2)), (o_endOf, .inl (cI, 8, .inl v_endOf))]) A) A) ([.ref o, .int a1, .int a2] : List Value).toArray s 0 0 A) (F0 m 58 ls [])) :
    ∀ (n2 : Nat) (v_done : Int64) (v_taskOf : Nat → Int32) (x3 : Int32) (H : Heap) (locs : List Loc), va_P D vwCl [(o, .inr (5, [.ref o_begin, .ref o_worker, .int v_tasks, .ref o_taskOf, .ref o_endOf, .long v_begun, .long v_done])), (o_taskOf, .inl (cI, 8, .inl v_taskOf)), (o_endOf, .inl (cI, 8, .inl v_endOf))] H → va_D A [(o, .inr (5, [.ref o_begin, .ref o_worker, .int v_tasks, .ref o_taskOf, .ref o_endOf, .long v_begun, .long v_done])), (o_taskOf, .inl (cI, 8, .inl v_taskOf)), (o_endOf, .inl (cI, 8, .inl v_endOf))] → va_S A s.heap H locs → ∀ ls : Array Slot, lv_has ls 4 [(0, .ref o), (1, .int x1), (2, .int x2), (3, .int x3)] → lp_X5_endTasks_2 v_endOf x1 x2 n2 v_done v_taskOf x3 kx → W p l e ({ frames := 1, cells := 0, slots := 0, locals := 20 } : Room) s m ([.ref o, .int a1, .int a2] : List Value).toArray below meth c H locs 0 0 (MQ below (va_Qv (fun u : (Int64) × (Nat → Int32) => post u.1 u.2) (gb_B D (fun u : (Int64) × (Nat → Int32) => [(o, .inr (5, [.ref o_begin, .ref o_worker, .int v_tasks, .ref o_taskOf, .ref o_endOf, .long v_begun, .long u.1])), (o_taskOf, .inl (cI, 8, .inl u.2)), (o_endOf, .inl (cI, 8, .inl v_endOf))]) A) A) ([.ref o, .int a1, .int a2] : List Value).toArray s 0 0 A) (F0 m 2 ls []) := by
  obtain ⟨hx, hb, hr, hml, hown, hts, hlocks, hnm, hK, hA⟩ := id C
  replace hown : s.vm.findClass RX5 = some m.cls := hown
  intro n2
  induction n2 with
  | zero => intro v_done v_taskOf x3 H locs hP hD hS ls hl h; exact False.elim h
  | succ n2 ih =>
    intro v_done v_taskOf x3 H locs hP hD hS ls hl h
    rw [lp_X5_endTasks_2] at h
    refine lv_iload_n hx hb dX5_endTasks_2 rfl (lv_at hl 3 rfl) ?_
    refine lv_iload_n hx hb dX5_endTasks_3 rfl (lv_at hl 2 rfl) ?_
    refine lv_icmp_ge (tgt := 58) hx hb dX5_endTasks_4 (by decide) (fun c1 => ?_) (fun c1 => ?_)
    · replace h := h.1 c1
      exact hkx v_done v_taskOf _ _ (hP.sub [0, 1, 2] rfl) (hD.sub [0, 1, 2] (by decide) rfl) hS ls (lv_sub hl [] rfl) h
    · replace h := h.2 c1
      refine lv_aload_n hx hb dX5_endTasks_7 rfl (lv_at hl 0 rfl) ?_
      refine va_get (D := D) (ci := 5) (v := .ref o_taskOf) (C := RX5) (T := TX5) (N := 7) hx hb hts in_X5_endTasks_X5 hown hK.1 hP 0 rfl rfl 3 (by decide) (hts (.fieldLink RX5 18 "OrderKeeper$Schedule" "taskOf" "[I") (List.mem_of_getElem? (i := 1) rfl)) (fun _ h9 => h9) rfl dX5_endTasks_8 ?_
      refine lv_iload_n hx hb dX5_endTasks_11 rfl (lv_at hl 3 rfl) ?_
      obtain ⟨hi2, h⟩ := h
      refine va_iald hx hb hK.1 hP 1 0 rfl rfl hi2 dX5_endTasks_12 ?_
      refine lv_iconst (v := (-1)) hx hb dX5_endTasks_13 (by decide) ?_
      refine lv_icmp_eq (tgt := 52) hx hb dX5_endTasks_14 (by decide) (fun c3 => ?_) (fun c3 => ?_)
      · replace h := h.1 c3
        obtain ⟨x3_4, ex3_4⟩ : ∃ z : Int32, z = x3 + 1 := ⟨_, rfl⟩
        refine lv_iinc (v := x3_4) (lv' := [(3, .int x3_4), (0, .ref o), (1, .int x1), (2, .int x2)]) hx hb dX5_endTasks_52 hl (k := 3) rfl (by rw [ex3_4]; rfl) (by decide) rfl (fun ls hl => ?_)
        replace h := h x3_4 ex3_4
        refine lv_goto (tgt := 2) hx hb dX5_endTasks_55 (by decide) ?_
        exact ih v_done v_taskOf x3_4 _ _ (hP.sub [0, 1, 2] rfl) (hD.sub [0, 1, 2] (by decide) rfl) hS ls (lv_sub hl [1, 2, 3, 0] rfl) h
      · replace h := h.2 c3
        refine lv_aload_n hx hb dX5_endTasks_17 rfl (lv_at hl 0 rfl) ?_
        refine va_get (D := D) (ci := 5) (v := .ref o_endOf) (C := RX5) (T := TX5) (N := 7) hx hb hts in_X5_endTasks_X5 hown hK.1 hP 0 rfl rfl 4 (by decide) (hts (.fieldLink RX5 21 "OrderKeeper$Schedule" "endOf" "[I") (List.mem_of_getElem? (i := 2) rfl)) (fun _ h9 => h9) rfl dX5_endTasks_18 ?_
        refine lv_iload_n hx hb dX5_endTasks_21 rfl (lv_at hl 3 rfl) ?_
        obtain ⟨hi5, h⟩ := h
        refine va_iald hx hb hK.1 hP 2 0 rfl rfl hi5 dX5_endTasks_22 ?_
        refine lv_iload_n hx hb dX5_endTasks_23 rfl (lv_at hl 1 rfl) ?_
        refine lv_icmp_ne (tgt := 52) hx hb dX5_endTasks_24 (by decide) (fun c6 => ?_) (fun c6 => ?_)
        · replace h := h.2 c6
          obtain ⟨x3_7, ex3_7⟩ : ∃ z : Int32, z = x3 + 1 := ⟨_, rfl⟩
          refine lv_iinc (v := x3_7) (lv' := [(3, .int x3_7), (0, .ref o), (1, .int x1), (2, .int x2)]) hx hb dX5_endTasks_52 hl (k := 3) rfl (by rw [ex3_7]; rfl) (by decide) rfl (fun ls hl => ?_)
          replace h := h x3_7 ex3_7
          refine lv_goto (tgt := 2) hx hb dX5_endTasks_55 (by decide) ?_
          exact ih v_done v_taskOf x3_7 _ _ (hP.sub [0, 1, 2] rfl) (hD.sub [0, 1, 2] (by decide) rfl) hS ls (lv_sub hl [1, 2, 3, 0] rfl) h
        · replace h := h.1 c6
          refine lv_aload_n hx hb dX5_endTasks_27 rfl (lv_at hl 0 rfl) ?_
          refine lv_dup hx hb dX5_endTasks_28 rfl ?_
          refine va_get (D := D) (ci := 5) (v := .long v_done) (C := RX5) (T := TX5) (N := 7) hx hb hts in_X5_endTasks_X5 hown hK.1 hP 0 rfl rfl 6 (by decide) (hts (.fieldLink RX5 35 "OrderKeeper$Schedule" "done" "J") (List.mem_of_getElem? (i := 3) rfl)) (fun _ h9 => h9) rfl dX5_endTasks_29 ?_
          refine lv_aload_n hx hb dX5_endTasks_32 rfl (lv_at hl 0 rfl) ?_
          refine va_get (D := D) (ci := 5) (v := .ref o_taskOf) (C := RX5) (T := TX5) (N := 7) hx hb hts in_X5_endTasks_X5 hown hK.1 hP 0 rfl rfl 3 (by decide) (hts (.fieldLink RX5 18 "OrderKeeper$Schedule" "taskOf" "[I") (List.mem_of_getElem? (i := 1) rfl)) (fun _ h9 => h9) rfl dX5_endTasks_33 ?_
          refine lv_iload_n hx hb dX5_endTasks_36 rfl (lv_at hl 3 rfl) ?_
          obtain ⟨hi8, h⟩ := h
          refine va_iald hx hb hK.1 hP 1 0 rfl rfl hi8 dX5_endTasks_37 ?_
          refine gb_kl (wc := []) (wr := [(o, .inr (5, [.ref o_begin, .ref o_worker, .int v_tasks, .ref o_taskOf, .ref o_endOf, .long v_begun, .long v_done])), (o_taskOf, .inl (cI, 8, .inl v_taskOf)), (o_endOf, .inl (cI, 8, .inl v_endOf))]) C hP hD hS [] [0, 1, 2] rfl rfl (by decide) (gb_rSN (As := [.int (v_taskOf x3.toNatClampNeg)]) (rest := [.long v_done, .ref o]) C ((c_X7_bit l D cI cJ cZ cO (v_taskOf x3.toNatClampNeg) _ h) _) rfl (cw_X5_endTasks_56 hts hK.2 ⟨Nat.le_of_ble_eq_true rfl, Nat.le_of_ble_eq_true rfl⟩) rfl hl.1 rfl (Nat.le_of_ble_eq_true rfl) dX5_endTasks_38 ⟨Nat.zero_le _, Nat.zero_le _⟩) ?_
          rintro r_9 _ H locs h hP hD hS
          try dsimp only at h
          replace hP : va_P D vwCl [(o, .inr (5, [.ref o_begin, .ref o_worker, .int v_tasks, .ref o_taskOf, .ref o_endOf, .long v_begun, .long v_done])), (o_taskOf, .inl (cI, 8, .inl v_taskOf)), (o_endOf, .inl (cI, 8, .inl v_endOf))] H := hP
          replace hD : va_D A [(o, .inr (5, [.ref o_begin, .ref o_worker, .int v_tasks, .ref o_taskOf, .ref o_endOf, .long v_begun, .long v_done])), (o_taskOf, .inl (cI, 8, .inl v_taskOf)), (o_endOf, .inl (cI, 8, .inl v_endOf))] := hD
          refine lv_lor hx hb dX5_endTasks_41 ?_
          refine lv_topl (fun v_done_10 ev_done_10 => ?_)
          replace h := h v_done_10 ev_done_10
          refine va_put (D := D) (ci := 5) (v := .long v_done_10) (ty := .long) (C := RX5) (T := TX5) (N := 7) hx hb hts in_X5_endTasks_X5 tyX5 tyX5_ok nmX5 hown hK.1 hP hD hS 0 rfl rfl 6 (by decide) (hts (.fieldLink RX5 35 "OrderKeeper$Schedule" "done" "J") (List.mem_of_getElem? (i := 3) rfl)) (fun _ h9 => h9) rfl (tyX5_ok 6 (by decide)) rfl rfl (Nat.le_of_ble_eq_true rfl) dX5_endTasks_42 (fun H locs hP hD hS => ?_)
          replace hP : va_P D vwCl [(o, .inr (5, [.ref o_begin, .ref o_worker, .int v_tasks, .ref o_taskOf, .ref o_endOf, .long v_begun, .long v_done_10])), (o_taskOf, .inl (cI, 8, .inl v_taskOf)), (o_endOf, .inl (cI, 8, .inl v_endOf))] H := hP
          replace hD : va_D A [(o, .inr (5, [.ref o_begin, .ref o_worker, .int v_tasks, .ref o_taskOf, .ref o_endOf, .long v_begun, .long v_done_10])), (o_taskOf, .inl (cI, 8, .inl v_taskOf)), (o_endOf, .inl (cI, 8, .inl v_endOf))] := hD
          refine lv_aload_n hx hb dX5_endTasks_45 rfl (lv_at hl 0 rfl) ?_
          refine va_get (D := D) (ci := 5) (v := .ref o_taskOf) (C := RX5) (T := TX5) (N := 7) hx hb hts in_X5_endTasks_X5 hown hK.1 hP 0 rfl rfl 3 (by decide) (hts (.fieldLink RX5 18 "OrderKeeper$Schedule" "taskOf" "[I") (List.mem_of_getElem? (i := 1) rfl)) (fun _ h9 => h9) rfl dX5_endTasks_46 ?_
          refine lv_iload_n hx hb dX5_endTasks_49 rfl (lv_at hl 3 rfl) ?_
          refine lv_iconst (v := (-1)) hx hb dX5_endTasks_50 (by decide) ?_
          obtain ⟨hi11, h⟩ := h
          obtain ⟨v_taskOf_12, ev_taskOf_12⟩ : ∃ z : Nat → Int32, z = upd v_taskOf x3.toNatClampNeg (-1) := ⟨_, rfl⟩
          refine va_iast hx hb hK.1 hP hD hS 1 0 rfl rfl hi11 dX5_endTasks_51 (fun H locs hP hD hS => ?_)
          replace hP : va_P D vwCl [(o, .inr (5, [.ref o_begin, .ref o_worker, .int v_tasks, .ref o_taskOf, .ref o_endOf, .long v_begun, .long v_done_10])), (o_taskOf, .inl (cI, 8, .inl v_taskOf_12)), (o_endOf, .inl (cI, 8, .inl v_endOf))] H := by rw [ev_taskOf_12]; exact hP
          replace hD : va_D A [(o, .inr (5, [.ref o_begin, .ref o_worker, .int v_tasks, .ref o_taskOf, .ref o_endOf, .long v_begun, .long v_done_10])), (o_taskOf, .inl (cI, 8, .inl v_taskOf_12)), (o_endOf, .inl (cI, 8, .inl v_endOf))] := by rw [ev_taskOf_12]; exact hD
          replace h := h v_taskOf_12 ev_taskOf_12
          obtain ⟨x3_13, ex3_13⟩ : ∃ z : Int32, z = x3 + 1 := ⟨_, rfl⟩
          refine lv_iinc (v := x3_13) (lv' := [(3, .int x3_13), (0, .ref o), (1, .int x1), (2, .int x2)]) hx hb dX5_endTasks_52 hl (k := 3) rfl (by rw [ex3_13]; rfl) (by decide) rfl (fun ls hl => ?_)
          replace h := h x3_13 ex3_13
          refine lv_goto (tgt := 2) hx hb dX5_endTasks_55 (by decide) ?_
          exact ih v_done_10 v_taskOf_12 x3_13 _ _ (hP.sub [0, 1, 2] rfl) (hD.sub [0, 1, 2] (by decide) rfl) hS ls (lv_sub hl [1, 2, 3, 0] rfl) h
def wp_X5_endTasks (v_done : Int64) (v_taskOf : Nat → Int32) (v_endOf : Nat → Int32) (a1 : Int32) (a2 : Int32) (post : (Int64) → (Nat → Int32) → Prop) : Prop := (∃ n2 : Nat, lp_X5_endTasks_2 v_endOf a1 a2 n2 v_done v_taskOf 0 (fun (v_done_14 : Int64) (v_taskOf_15 : Nat → Int32) => post v_done_14 v_taskOf_15))
set_option maxHeartbeats 4000000 in
set_option maxRecDepth 100000 in
theorem c_X5_endTasks (l : Launch) (D : va_G) (cI cJ cZ cO : ClassId) (o : Nat) (o_begin : Nat) (o_worker : Nat) (o_taskOf : Nat) (o_endOf : Nat) (v_tasks : Int32) (v_begun : Int64) (v_done : Int64) (v_taskOf : Nat → Int32) (v_endOf : Nat → Int32) (a1 : Int32) (a2 : Int32) (post : (Int64) → (Nat → Int32) → Prop) (hw : wp_X5_endTasks v_done v_taskOf v_endOf a1 a2 post) : gb_Cv D cI cJ cZ cO l yX5_endTasks wsX5_endTasks ({ frames := 1, cells := 0, slots := 0, locals := 20 }) [.ref o, .int a1, .int a2] [(o, .inr (5, [.ref o_begin, .ref o_worker, .int v_tasks, .ref o_taskOf, .ref o_endOf, .long v_begun, .long v_done])), (o_taskOf, .inl (cI, 8, .inl v_taskOf)), (o_endOf, .inl (cI, 8, .inl v_endOf))] (fun u : (Int64) × (Nat → Int32) => post u.1 u.2) (fun u : (Int64) × (Nat → Int32) => [(o, .inr (5, [.ref o_begin, .ref o_worker, .int v_tasks, .ref o_taskOf, .ref o_endOf, .long v_begun, .long u.1])), (o_taskOf, .inl (cI, 8, .inl u.2)), (o_endOf, .inl (cI, 8, .inl v_endOf))]) 0 0 := by
  refine gb_mv (cc := cX5_endTasks) (maxL := 4) (ret := none) (by decide) rfl (Nat.le_of_ble_eq_true rfl) ?_
  · intro p e s m below meth c A C hP hD hS ls hl
    obtain ⟨hx, hb, hr, hml, hown, hts, hlocks, hnm, hK, hA⟩ := id C
    replace hown : s.vm.findClass RX5 = some m.cls := hown
    have h := hw
    unfold wp_X5_endTasks at h
    replace hl : lv_has ls 4 [(0, .ref o), (1, .int a1), (2, .int a2)] := hl
    refine lv_iconst (v := 0) hx hb dX5_endTasks_0 (by decide) ?_
    refine lv_istore_n (lv' := [(3, .int 0), (0, .ref o), (1, .int a1), (2, .int a2)]) hx hb dX5_endTasks_1 rfl hl (by decide) rfl (fun ls hl => ?_)
    obtain ⟨n2, h⟩ := h
    refine ml_X5_endTasks_2 o o_begin o_worker o_taskOf o_endOf v_tasks v_begun v_endOf a1 a2 a1 a2 C post _ ?_ n2 v_done v_taskOf 0 _ _ (hP.sub [0, 1, 2] rfl) (hD.sub [0, 1, 2] (by decide) rfl) hS ls (lv_sub hl [1, 2, 3, 0] rfl) h
    intro v_done_14 v_taskOf_15 H locs hP hD hS ls hl h
    exact gb_retv C (v_done_14, v_taskOf_15) (hP.sub [0, 1, 2] rfl) (hD.sub [0, 1, 2] (by decide) rfl) hS h dX5_endTasks_58
/-! OrderKeeper$Schedule.take(IIII)V -/
theorem in_X5_take_X5 : ∀ w ∈ wsX50, w ∈ wsX5_take := fun _ h => List.mem_cons_of_mem _ (List.mem_append_right _ h)
theorem hdS_X5_take : yX5_take.cls ≠ "java/lang/invoke/MethodHandle" ∧ yX5_take.cls ≠ "java/lang/invoke/VarHandle" ∧ (parseMethodDescriptor yX5_take.desc).map (fun d => d.parameters.length) = some 4 := by decide +kernel
theorem hdV_X5_take : yX5_take.cls = RX5 ∧ yX5_take.cls ≠ "java/lang/invoke/MethodHandle" ∧ yX5_take.cls ≠ "java/lang/invoke/VarHandle" ∧ (parseMethodDescriptor yX5_take.desc).map (fun d => d.parameters.length) = some 4 := ⟨rfl, hdS_X5_take⟩
theorem cw_X5_take_56 {R : Room} {s : State} {args : Array Value} (hts : ∀ w ∈ wsX5_take, w.before args s = true) (hN : gb_N s) (hR : 0 + 1 ≤ R.frames ∧ 8 + (1 + 11) + 0 ≤ R.locals) : va_CN R s args RX5 56 yX7_bit "OrderKeeper" cX7_bit 1 (some .long) wsX7_bit ({ frames := 0, cells := 0, slots := 0, locals := 0 }) 0 0 1 ∧ (Cond.static yX7_bit).before args s = true ∧ True := ⟨va_cnB 1 hts gX5_take_X7_bit_n56 rfl rfl rfl (hN.1 (RX5, 56, yX7_bit, "OrderKeeper") (List.mem_of_getElem? (i := 11) rfl)) (hts (.initialized RX7) (List.mem_of_getElem? (i := 8) rfl)) hdS_X7_bit hR, (hts (.static yX7_bit) (List.mem_of_getElem? (i := 7) rfl)), trivial⟩
def wp_X5_take (v_begun : Int64) (v_done : Int64) (v_begin : Nat → Int32) (v_worker : Nat → Int32) (v_taskOf : Nat → Int32) (v_endOf : Nat → Int32) (a1 : Int32) (a2 : Int32) (a3 : Int32) (a4 : Int32) (post : (Int64) → (Int64) → (Nat → Int32) → (Nat → Int32) → (Nat → Int32) → (Nat → Int32) → Prop) : Prop := vp_in a1 60 ∧ ∀ v_begin_2 : Nat → Int32, v_begin_2 = upd v_begin a1.toNatClampNeg a3 → vp_in a1 60 ∧ ∀ v_worker_4 : Nat → Int32, v_worker_4 = upd v_worker a1.toNatClampNeg a2 → wp_X7_bit a1 (fun (r_5 : Int64) => ∀ v_begun_6 : Int64, v_begun_6 = v_begun ||| r_5 → ((a4 = 0 → wp_X7_bit a1 (fun (r_12 : Int64) => ∀ v_done_13 : Int64, v_done_13 = v_done ||| r_12 → post v_begun_6 v_done_13 v_begin_2 v_worker_4 v_taskOf v_endOf)) ∧ (¬ (a4 = 0) → vp_in a2 8 ∧ ∀ v_taskOf_9 : Nat → Int32, v_taskOf_9 = upd v_taskOf a2.toNatClampNeg a1 → vp_in a2 8 ∧ ∀ v_endOf_11 : Nat → Int32, v_endOf_11 = upd v_endOf a2.toNatClampNeg (a3 + a4) → post v_begun_6 v_done v_begin_2 v_worker_4 v_taskOf_9 v_endOf_11)))
set_option maxHeartbeats 4000000 in
set_option maxRecDepth 100000 in
theorem c_X5_take (l : Launch) (D : va_G) (cI cJ cZ cO : ClassId) (o : Nat) (o_begin : Nat) (o_worker : Nat) (o_taskOf : Nat) (o_endOf : Nat) (v_tasks : Int32) (v_begun : Int64) (v_done : Int64) (v_begin : Nat → Int32) (v_worker : Nat → Int32) (v_taskOf : Nat → Int32) (v_endOf : Nat → Int32) (a1 : Int32) (a2 : Int32) (a3 : Int32) (a4 : Int32) (post : (Int64) → (Int64) → (Nat → Int32) → (Nat → Int32) → (Nat → Int32) → (Nat → Int32) → Prop) (hw : wp_X5_take v_begun v_done v_begin v_worker v_taskOf v_endOf a1 a2 a3 a4 post) : gb_Cv D cI cJ cZ cO l yX5_take wsX5_take ({ frames := 1, cells := 0, slots := 0, locals := 20 }) [.ref o, .int a1, .int a2, .int a3, .int a4] [(o, .inr (5, [.ref o_begin, .ref o_worker, .int v_tasks, .ref o_taskOf, .ref o_endOf, .long v_begun, .long v_done])), (o_begin, .inl (cI, 60, .inl v_begin)), (o_worker, .inl (cI, 60, .inl v_worker)), (o_taskOf, .inl (cI, 8, .inl v_taskOf)), (o_endOf, .inl (cI, 8, .inl v_endOf))] (fun u : (Int64) × (Int64) × (Nat → Int32) × (Nat → Int32) × (Nat → Int32) × (Nat → Int32) => post u.1 u.2.1 u.2.2.1 u.2.2.2.1 u.2.2.2.2.1 u.2.2.2.2.2) (fun u : (Int64) × (Int64) × (Nat → Int32) × (Nat → Int32) × (Nat → Int32) × (Nat → Int32) => [(o, .inr (5, [.ref o_begin, .ref o_worker, .int v_tasks, .ref o_taskOf, .ref o_endOf, .long u.1, .long u.2.1])), (o_begin, .inl (cI, 60, .inl u.2.2.1)), (o_worker, .inl (cI, 60, .inl u.2.2.2.1)), (o_taskOf, .inl (cI, 8, .inl u.2.2.2.2.1)), (o_endOf, .inl (cI, 8, .inl u.2.2.2.2.2))]) 0 0 := by
  refine gb_mv (cc := cX5_take) (maxL := 5) (ret := none) (by decide) rfl (Nat.le_of_ble_eq_true rfl) ?_
  · intro p e s m below meth c A C hP hD hS ls hl
    obtain ⟨hx, hb, hr, hml, hown, hts, hlocks, hnm, hK, hA⟩ := id C
    replace hown : s.vm.findClass RX5 = some m.cls := hown
    have h := hw
    unfold wp_X5_take at h
    replace hl : lv_has ls 5 [(0, .ref o), (1, .int a1), (2, .int a2), (3, .int a3), (4, .int a4)] := hl
    refine lv_aload_n hx hb dX5_take_0 rfl (lv_at hl 0 rfl) ?_
    refine va_get (D := D) (ci := 5) (v := .ref o_begin) (C := RX5) (T := TX5) (N := 7) hx hb hts in_X5_take_X5 hown hK.1 hP 0 rfl rfl 0 (by decide) (hts (.fieldLink RX5 9 "OrderKeeper$Schedule" "begin" "[I") (List.mem_of_getElem? (i := 1) rfl)) (fun _ h9 => h9) rfl dX5_take_1 ?_
    refine lv_iload_n hx hb dX5_take_4 rfl (lv_at hl 1 rfl) ?_
    refine lv_iload_n hx hb dX5_take_5 rfl (lv_at hl 3 rfl) ?_
    obtain ⟨hi1, h⟩ := h
    obtain ⟨v_begin_2, ev_begin_2⟩ : ∃ z : Nat → Int32, z = upd v_begin a1.toNatClampNeg a3 := ⟨_, rfl⟩
    refine va_iast hx hb hK.1 hP hD hS 1 0 rfl rfl hi1 dX5_take_6 (fun H locs hP hD hS => ?_)
    replace hP : va_P D vwCl [(o, .inr (5, [.ref o_begin, .ref o_worker, .int v_tasks, .ref o_taskOf, .ref o_endOf, .long v_begun, .long v_done])), (o_begin, .inl (cI, 60, .inl v_begin_2)), (o_worker, .inl (cI, 60, .inl v_worker)), (o_taskOf, .inl (cI, 8, .inl v_taskOf)), (o_endOf, .inl (cI, 8, .inl v_endOf))] H := by rw [ev_begin_2]; exact hP
    replace hD : va_D A [(o, .inr (5, [.ref o_begin, .ref o_worker, .int v_tasks, .ref o_taskOf, .ref o_endOf, .long v_begun, .long v_done])), (o_begin, .inl (cI, 60, .inl v_begin_2)), (o_worker, .inl (cI, 60, .inl v_worker)), (o_taskOf, .inl (cI, 8, .inl v_taskOf)), (o_endOf, .inl (cI, 8, .inl v_endOf))] := by rw [ev_begin_2]; exact hD
    replace h := h v_begin_2 ev_begin_2
    refine lv_aload_n hx hb dX5_take_7 rfl (lv_at hl 0 rfl) ?_
    refine va_get (D := D) (ci := 5) (v := .ref o_worker) (C := RX5) (T := TX5) (N := 7) hx hb hts in_X5_take_X5 hown hK.1 hP 0 rfl rfl 1 (by decide) (hts (.fieldLink RX5 15 "OrderKeeper$Schedule" "worker" "[I") (List.mem_of_getElem? (i := 2) rfl)) (fun _ h9 => h9) rfl dX5_take_8 ?_
    refine lv_iload_n hx hb dX5_take_11 rfl (lv_at hl 1 rfl) ?_
    refine lv_iload_n hx hb dX5_take_12 rfl (lv_at hl 2 rfl) ?_
    obtain ⟨hi3, h⟩ := h
    obtain ⟨v_worker_4, ev_worker_4⟩ : ∃ z : Nat → Int32, z = upd v_worker a1.toNatClampNeg a2 := ⟨_, rfl⟩
    refine va_iast hx hb hK.1 hP hD hS 2 0 rfl rfl hi3 dX5_take_13 (fun H locs hP hD hS => ?_)
    replace hP : va_P D vwCl [(o, .inr (5, [.ref o_begin, .ref o_worker, .int v_tasks, .ref o_taskOf, .ref o_endOf, .long v_begun, .long v_done])), (o_begin, .inl (cI, 60, .inl v_begin_2)), (o_worker, .inl (cI, 60, .inl v_worker_4)), (o_taskOf, .inl (cI, 8, .inl v_taskOf)), (o_endOf, .inl (cI, 8, .inl v_endOf))] H := by rw [ev_worker_4]; exact hP
    replace hD : va_D A [(o, .inr (5, [.ref o_begin, .ref o_worker, .int v_tasks, .ref o_taskOf, .ref o_endOf, .long v_begun, .long v_done])), (o_begin, .inl (cI, 60, .inl v_begin_2)), (o_worker, .inl (cI, 60, .inl v_worker_4)), (o_taskOf, .inl (cI, 8, .inl v_taskOf)), (o_endOf, .inl (cI, 8, .inl v_endOf))] := by rw [ev_worker_4]; exact hD
    replace h := h v_worker_4 ev_worker_4
    refine lv_aload_n hx hb dX5_take_14 rfl (lv_at hl 0 rfl) ?_
    refine lv_dup hx hb dX5_take_15 rfl ?_
    refine va_get (D := D) (ci := 5) (v := .long v_begun) (C := RX5) (T := TX5) (N := 7) hx hb hts in_X5_take_X5 hown hK.1 hP 0 rfl rfl 5 (by decide) (hts (.fieldLink RX5 31 "OrderKeeper$Schedule" "begun" "J") (List.mem_of_getElem? (i := 3) rfl)) (fun _ h9 => h9) rfl dX5_take_16 ?_
    refine lv_iload_n hx hb dX5_take_19 rfl (lv_at hl 1 rfl) ?_
    refine gb_kl (wc := []) (wr := [(o, .inr (5, [.ref o_begin, .ref o_worker, .int v_tasks, .ref o_taskOf, .ref o_endOf, .long v_begun, .long v_done])), (o_begin, .inl (cI, 60, .inl v_begin_2)), (o_worker, .inl (cI, 60, .inl v_worker_4)), (o_taskOf, .inl (cI, 8, .inl v_taskOf)), (o_endOf, .inl (cI, 8, .inl v_endOf))]) C hP hD hS [] [0, 1, 2, 3, 4] rfl rfl (by decide) (gb_rSN (As := [.int a1]) (rest := [.long v_begun, .ref o]) C ((c_X7_bit l D cI cJ cZ cO a1 _ h) _) rfl (cw_X5_take_56 hts hK.2 ⟨Nat.le_of_ble_eq_true rfl, Nat.le_of_ble_eq_true rfl⟩) rfl hl.1 rfl (Nat.le_of_ble_eq_true rfl) dX5_take_20 ⟨Nat.zero_le _, Nat.zero_le _⟩) ?_
    rintro r_5 _ H locs h hP hD hS
    try dsimp only at h
    replace hP : va_P D vwCl [(o, .inr (5, [.ref o_begin, .ref o_worker, .int v_tasks, .ref o_taskOf, .ref o_endOf, .long v_begun, .long v_done])), (o_begin, .inl (cI, 60, .inl v_begin_2)), (o_worker, .inl (cI, 60, .inl v_worker_4)), (o_taskOf, .inl (cI, 8, .inl v_taskOf)), (o_endOf, .inl (cI, 8, .inl v_endOf))] H := hP
    replace hD : va_D A [(o, .inr (5, [.ref o_begin, .ref o_worker, .int v_tasks, .ref o_taskOf, .ref o_endOf, .long v_begun, .long v_done])), (o_begin, .inl (cI, 60, .inl v_begin_2)), (o_worker, .inl (cI, 60, .inl v_worker_4)), (o_taskOf, .inl (cI, 8, .inl v_taskOf)), (o_endOf, .inl (cI, 8, .inl v_endOf))] := hD
    refine lv_lor hx hb dX5_take_23 ?_
    refine lv_topl (fun v_begun_6 ev_begun_6 => ?_)
    replace h := h v_begun_6 ev_begun_6
    refine va_put (D := D) (ci := 5) (v := .long v_begun_6) (ty := .long) (C := RX5) (T := TX5) (N := 7) hx hb hts in_X5_take_X5 tyX5 tyX5_ok nmX5 hown hK.1 hP hD hS 0 rfl rfl 5 (by decide) (hts (.fieldLink RX5 31 "OrderKeeper$Schedule" "begun" "J") (List.mem_of_getElem? (i := 3) rfl)) (fun _ h9 => h9) rfl (tyX5_ok 5 (by decide)) rfl rfl (Nat.le_of_ble_eq_true rfl) dX5_take_24 (fun H locs hP hD hS => ?_)
    replace hP : va_P D vwCl [(o, .inr (5, [.ref o_begin, .ref o_worker, .int v_tasks, .ref o_taskOf, .ref o_endOf, .long v_begun_6, .long v_done])), (o_begin, .inl (cI, 60, .inl v_begin_2)), (o_worker, .inl (cI, 60, .inl v_worker_4)), (o_taskOf, .inl (cI, 8, .inl v_taskOf)), (o_endOf, .inl (cI, 8, .inl v_endOf))] H := hP
    replace hD : va_D A [(o, .inr (5, [.ref o_begin, .ref o_worker, .int v_tasks, .ref o_taskOf, .ref o_endOf, .long v_begun_6, .long v_done])), (o_begin, .inl (cI, 60, .inl v_begin_2)), (o_worker, .inl (cI, 60, .inl v_worker_4)), (o_taskOf, .inl (cI, 8, .inl v_taskOf)), (o_endOf, .inl (cI, 8, .inl v_endOf))] := hD
    refine lv_iload hx hb dX5_take_27 (lv_at hl 4 rfl) ?_
    refine lv_if_ne (tgt := 48) hx hb dX5_take_29 (by decide) (fun c7 => ?_) (fun c7 => ?_)
    · replace h := h.2 c7
      refine lv_aload_n hx hb dX5_take_48 rfl (lv_at hl 0 rfl) ?_
      refine va_get (D := D) (ci := 5) (v := .ref o_taskOf) (C := RX5) (T := TX5) (N := 7) hx hb hts in_X5_take_X5 hown hK.1 hP 0 rfl rfl 3 (by decide) (hts (.fieldLink RX5 18 "OrderKeeper$Schedule" "taskOf" "[I") (List.mem_of_getElem? (i := 5) rfl)) (fun _ h9 => h9) rfl dX5_take_49 ?_
      refine lv_iload_n hx hb dX5_take_52 rfl (lv_at hl 2 rfl) ?_
      refine lv_iload_n hx hb dX5_take_53 rfl (lv_at hl 1 rfl) ?_
      obtain ⟨hi8, h⟩ := h
      obtain ⟨v_taskOf_9, ev_taskOf_9⟩ : ∃ z : Nat → Int32, z = upd v_taskOf a2.toNatClampNeg a1 := ⟨_, rfl⟩
      refine va_iast hx hb hK.1 hP hD hS 3 0 rfl rfl hi8 dX5_take_54 (fun H locs hP hD hS => ?_)
      replace hP : va_P D vwCl [(o, .inr (5, [.ref o_begin, .ref o_worker, .int v_tasks, .ref o_taskOf, .ref o_endOf, .long v_begun_6, .long v_done])), (o_begin, .inl (cI, 60, .inl v_begin_2)), (o_worker, .inl (cI, 60, .inl v_worker_4)), (o_taskOf, .inl (cI, 8, .inl v_taskOf_9)), (o_endOf, .inl (cI, 8, .inl v_endOf))] H := by rw [ev_taskOf_9]; exact hP
      replace hD : va_D A [(o, .inr (5, [.ref o_begin, .ref o_worker, .int v_tasks, .ref o_taskOf, .ref o_endOf, .long v_begun_6, .long v_done])), (o_begin, .inl (cI, 60, .inl v_begin_2)), (o_worker, .inl (cI, 60, .inl v_worker_4)), (o_taskOf, .inl (cI, 8, .inl v_taskOf_9)), (o_endOf, .inl (cI, 8, .inl v_endOf))] := by rw [ev_taskOf_9]; exact hD
      replace h := h v_taskOf_9 ev_taskOf_9
      refine lv_aload_n hx hb dX5_take_55 rfl (lv_at hl 0 rfl) ?_
      refine va_get (D := D) (ci := 5) (v := .ref o_endOf) (C := RX5) (T := TX5) (N := 7) hx hb hts in_X5_take_X5 hown hK.1 hP 0 rfl rfl 4 (by decide) (hts (.fieldLink RX5 21 "OrderKeeper$Schedule" "endOf" "[I") (List.mem_of_getElem? (i := 6) rfl)) (fun _ h9 => h9) rfl dX5_take_56 ?_
      refine lv_iload_n hx hb dX5_take_59 rfl (lv_at hl 2 rfl) ?_
      refine lv_iload_n hx hb dX5_take_60 rfl (lv_at hl 3 rfl) ?_
      refine lv_iload hx hb dX5_take_61 (lv_at hl 4 rfl) ?_
      refine lv_iadd hx hb dX5_take_63 ?_
      obtain ⟨hi10, h⟩ := h
      obtain ⟨v_endOf_11, ev_endOf_11⟩ : ∃ z : Nat → Int32, z = upd v_endOf a2.toNatClampNeg (a3 + a4) := ⟨_, rfl⟩
      refine va_iast hx hb hK.1 hP hD hS 4 0 rfl rfl hi10 dX5_take_64 (fun H locs hP hD hS => ?_)
      replace hP : va_P D vwCl [(o, .inr (5, [.ref o_begin, .ref o_worker, .int v_tasks, .ref o_taskOf, .ref o_endOf, .long v_begun_6, .long v_done])), (o_begin, .inl (cI, 60, .inl v_begin_2)), (o_worker, .inl (cI, 60, .inl v_worker_4)), (o_taskOf, .inl (cI, 8, .inl v_taskOf_9)), (o_endOf, .inl (cI, 8, .inl v_endOf_11))] H := by rw [ev_endOf_11]; exact hP
      replace hD : va_D A [(o, .inr (5, [.ref o_begin, .ref o_worker, .int v_tasks, .ref o_taskOf, .ref o_endOf, .long v_begun_6, .long v_done])), (o_begin, .inl (cI, 60, .inl v_begin_2)), (o_worker, .inl (cI, 60, .inl v_worker_4)), (o_taskOf, .inl (cI, 8, .inl v_taskOf_9)), (o_endOf, .inl (cI, 8, .inl v_endOf_11))] := by rw [ev_endOf_11]; exact hD
      replace h := h v_endOf_11 ev_endOf_11
      exact gb_retv C (v_begun_6, v_done, v_begin_2, v_worker_4, v_taskOf_9, v_endOf_11) (hP.sub [0, 1, 2, 3, 4] rfl) (hD.sub [0, 1, 2, 3, 4] (by decide) rfl) hS h dX5_take_65
    · replace h := h.1 c7
      refine lv_aload_n hx hb dX5_take_32 rfl (lv_at hl 0 rfl) ?_
      refine lv_dup hx hb dX5_take_33 rfl ?_
      refine va_get (D := D) (ci := 5) (v := .long v_done) (C := RX5) (T := TX5) (N := 7) hx hb hts in_X5_take_X5 hown hK.1 hP 0 rfl rfl 6 (by decide) (hts (.fieldLink RX5 35 "OrderKeeper$Schedule" "done" "J") (List.mem_of_getElem? (i := 4) rfl)) (fun _ h9 => h9) rfl dX5_take_34 ?_
      refine lv_iload_n hx hb dX5_take_37 rfl (lv_at hl 1 rfl) ?_
      refine gb_kl (wc := []) (wr := [(o, .inr (5, [.ref o_begin, .ref o_worker, .int v_tasks, .ref o_taskOf, .ref o_endOf, .long v_begun_6, .long v_done])), (o_begin, .inl (cI, 60, .inl v_begin_2)), (o_worker, .inl (cI, 60, .inl v_worker_4)), (o_taskOf, .inl (cI, 8, .inl v_taskOf)), (o_endOf, .inl (cI, 8, .inl v_endOf))]) C hP hD hS [] [0, 1, 2, 3, 4] rfl rfl (by decide) (gb_rSN (As := [.int a1]) (rest := [.long v_done, .ref o]) C ((c_X7_bit l D cI cJ cZ cO a1 _ h) _) rfl (cw_X5_take_56 hts hK.2 ⟨Nat.le_of_ble_eq_true rfl, Nat.le_of_ble_eq_true rfl⟩) rfl hl.1 rfl (Nat.le_of_ble_eq_true rfl) dX5_take_38 ⟨Nat.zero_le _, Nat.zero_le _⟩) ?_
      rintro r_12 _ H locs h hP hD hS
      try dsimp only at h
      replace hP : va_P D vwCl [(o, .inr (5, [.ref o_begin, .ref o_worker, .int v_tasks, .ref o_taskOf, .ref o_endOf, .long v_begun_6, .long v_done])), (o_begin, .inl (cI, 60, .inl v_begin_2)), (o_worker, .inl (cI, 60, .inl v_worker_4)), (o_taskOf, .inl (cI, 8, .inl v_taskOf)), (o_endOf, .inl (cI, 8, .inl v_endOf))] H := hP
      replace hD : va_D A [(o, .inr (5, [.ref o_begin, .ref o_worker, .int v_tasks, .ref o_taskOf, .ref o_endOf, .long v_begun_6, .long v_done])), (o_begin, .inl (cI, 60, .inl v_begin_2)), (o_worker, .inl (cI, 60, .inl v_worker_4)), (o_taskOf, .inl (cI, 8, .inl v_taskOf)), (o_endOf, .inl (cI, 8, .inl v_endOf))] := hD
      refine lv_lor hx hb dX5_take_41 ?_
      refine lv_topl (fun v_done_13 ev_done_13 => ?_)
      replace h := h v_done_13 ev_done_13
      refine va_put (D := D) (ci := 5) (v := .long v_done_13) (ty := .long) (C := RX5) (T := TX5) (N := 7) hx hb hts in_X5_take_X5 tyX5 tyX5_ok nmX5 hown hK.1 hP hD hS 0 rfl rfl 6 (by decide) (hts (.fieldLink RX5 35 "OrderKeeper$Schedule" "done" "J") (List.mem_of_getElem? (i := 4) rfl)) (fun _ h9 => h9) rfl (tyX5_ok 6 (by decide)) rfl rfl (Nat.le_of_ble_eq_true rfl) dX5_take_42 (fun H locs hP hD hS => ?_)
      replace hP : va_P D vwCl [(o, .inr (5, [.ref o_begin, .ref o_worker, .int v_tasks, .ref o_taskOf, .ref o_endOf, .long v_begun_6, .long v_done_13])), (o_begin, .inl (cI, 60, .inl v_begin_2)), (o_worker, .inl (cI, 60, .inl v_worker_4)), (o_taskOf, .inl (cI, 8, .inl v_taskOf)), (o_endOf, .inl (cI, 8, .inl v_endOf))] H := hP
      replace hD : va_D A [(o, .inr (5, [.ref o_begin, .ref o_worker, .int v_tasks, .ref o_taskOf, .ref o_endOf, .long v_begun_6, .long v_done_13])), (o_begin, .inl (cI, 60, .inl v_begin_2)), (o_worker, .inl (cI, 60, .inl v_worker_4)), (o_taskOf, .inl (cI, 8, .inl v_taskOf)), (o_endOf, .inl (cI, 8, .inl v_endOf))] := hD
      refine lv_goto (tgt := 65) hx hb dX5_take_45 (by decide) ?_
      exact gb_retv C (v_begun_6, v_done_13, v_begin_2, v_worker_4, v_taskOf, v_endOf) (hP.sub [0, 1, 2, 3, 4] rfl) (hD.sub [0, 1, 2, 3, 4] (by decide) rfl) hS h dX5_take_65
/-! OrderKeeper$Schedule.leastFree(I)I -/
theorem in_X5_leastFree_X5 : ∀ w ∈ wsX50, w ∈ wsX5_leastFree := fun _ h => List.mem_cons_of_mem _ (List.mem_append_right _ h)
theorem hdS_X5_leastFree : yX5_leastFree.cls ≠ "java/lang/invoke/MethodHandle" ∧ yX5_leastFree.cls ≠ "java/lang/invoke/VarHandle" ∧ (parseMethodDescriptor yX5_leastFree.desc).map (fun d => d.parameters.length) = some 1 := by decide +kernel
theorem hdV_X5_leastFree : yX5_leastFree.cls = RX5 ∧ yX5_leastFree.cls ≠ "java/lang/invoke/MethodHandle" ∧ yX5_leastFree.cls ≠ "java/lang/invoke/VarHandle" ∧ (parseMethodDescriptor yX5_leastFree.desc).map (fun d => d.parameters.length) = some 1 := ⟨rfl, hdS_X5_leastFree⟩
def lp_X5_leastFree_2 (v_taskOf : Nat → Int32) (x1 : Int32) (post : Int32 → Prop) : Nat → (Int32) → (Prop) → Prop
  | 0, _, _ => False
  | n2 + 1, x2, kx => ((x1 ≤ x2 → kx) ∧ (¬ (x1 ≤ x2) → vp_in x2 8 ∧ (((v_taskOf x2.toNatClampNeg) = (-1) → post x2) ∧ (¬ ((v_taskOf x2.toNatClampNeg) = (-1)) → ∀ x2_4 : Int32, x2_4 = x2 + 1 → lp_X5_leastFree_2 v_taskOf x1 post n2 x2_4 kx))))
set_option maxHeartbeats 4000000 in
set_option maxRecDepth 100000 in
theorem ml_X5_leastFree_2 {D : va_G} {cI cJ cZ cO : ClassId} {p : Program} {l : Launch} {e : Env} {s : State} {m : MethodId} {below : List Frame} {meth : Method} {c : Code} {A : Nat → Prop} (o : Nat) (o_begin : Nat) (o_worker : Nat) (o_taskOf : Nat) (o_endOf : Nat) (v_tasks : Int32) (v_begun : Int64) (v_done : Int64) (v_taskOf : Nat → Int32) (a1 : Int32) (x1 : Int32) (C : gb_At D cI cJ cZ cO p s m meth c ([.ref o, .int a1] : List Value).toArray A yX5_leastFree cX5_leastFree (some .int) 3 wsX5_leastFree) (post : Int32 → Prop) (kx : (Prop)) (hkx : ∀  (H : Heap) (locs : List Loc), va_P D vwCl [(o, .inr (5, [.ref o_begin, .ref o_worker, .int v_tasks, .ref o_taskOf, .ref o_endOf, .long v_begun, .long v_done])), (o_taskOf, .inl (cI, 8, .inl v_taskOf))] H → va_D A [(o, .inr (5, [.ref o_begin, .ref o_worker, .int v_tasks, .ref o_taskOf, .ref o_endOf, .long v_begun, .long v_done])), (o_taskOf, .inl (cI, 8, .inl v_taskOf))] → va_S A s.heap H locs → ∀ ls : Array Slot, lv_has ls 3 [] → kx  → W p l e ({ frames := 0, cells := 0, slots := 0, locals := 0 } : Room) s m ([.ref o, .int a1] : List Value).toArray below meth c H locs 0 0 (MQ below (va_Qi (fun (r : Int32) (_ : Unit) => post r ) (gb_B D (fun _ : Unit => [(o, .inr (5, [.ref o_begin, .ref o_worker, .int v_tasks, .ref o_taskOf, .ref o_endOf, .long v_begun, .long v_done])), (o_taskOf, .inl (cI, 8, .inl v_taskOf))]) A) A) ([.ref o, .int a1] : List Value).toArray s 0 0 A) (F0 m 25 ls [])) :
    ∀ (n2 : Nat) (x2 : Int32) (H : Heap) (locs : List Loc), va_P D vwCl [(o, .inr (5, [.ref o_begin, .ref o_worker, .int v_tasks, .ref o_taskOf, .ref o_endOf, .long v_begun, .long v_done])), (o_taskOf, .inl (cI, 8, .inl v_taskOf))] H → va_D A [(o, .inr (5, [.ref o_begin, .ref o_worker, .int v_tasks, .ref o_taskOf, .ref o_endOf, .long v_begun, .long v_done])), (o_taskOf, .inl (cI, 8, .inl v_taskOf))] → va_S A s.heap H locs → ∀ ls : Array Slot, lv_has ls 3 [(0, .ref o), (1, .int x1), (2, .int x2)] → lp_X5_leastFree_2 v_taskOf x1 post n2 x2 kx → W p l e ({ frames := 0, cells := 0, slots := 0, locals := 0 } : Room) s m ([.ref o, .int a1] : List Value).toArray below meth c H locs 0 0 (MQ below (va_Qi (fun (r : Int32) (_ : Unit) => post r ) (gb_B D (fun _ : Unit => [(o, .inr (5, [.ref o_begin, .ref o_worker, .int v_tasks, .ref o_taskOf, .ref o_endOf, .long v_begun, .long v_done])), (o_taskOf, .inl (cI, 8, .inl v_taskOf))]) A) A) ([.ref o, .int a1] : List Value).toArray s 0 0 A) (F0 m 2 ls []) := by
  obtain ⟨hx, hb, hr, hml, hown, hts, hlocks, hnm, hK, hA⟩ := id C
  replace hown : s.vm.findClass RX5 = some m.cls := hown
  intro n2
  induction n2 with
  | zero => intro x2 H locs hP hD hS ls hl h; exact False.elim h
  | succ n2 ih =>
    intro x2 H locs hP hD hS ls hl h
    rw [lp_X5_leastFree_2] at h
    refine lv_iload_n hx hb dX5_leastFree_2 rfl (lv_at hl 2 rfl) ?_
    refine lv_iload_n hx hb dX5_leastFree_3 rfl (lv_at hl 1 rfl) ?_
    refine lv_icmp_ge (tgt := 25) hx hb dX5_leastFree_4 (by decide) (fun c1 => ?_) (fun c1 => ?_)
    · replace h := h.1 c1
      exact hkx _ _ (hP.sub [0, 1] rfl) (hD.sub [0, 1] (by decide) rfl) hS ls (lv_sub hl [] rfl) h
    · replace h := h.2 c1
      refine lv_aload_n hx hb dX5_leastFree_7 rfl (lv_at hl 0 rfl) ?_
      refine va_get (D := D) (ci := 5) (v := .ref o_taskOf) (C := RX5) (T := TX5) (N := 7) hx hb hts in_X5_leastFree_X5 hown hK.1 hP 0 rfl rfl 3 (by decide) (hts (.fieldLink RX5 18 "OrderKeeper$Schedule" "taskOf" "[I") (List.mem_of_getElem? (i := 1) rfl)) (fun _ h9 => h9) rfl dX5_leastFree_8 ?_
      refine lv_iload_n hx hb dX5_leastFree_11 rfl (lv_at hl 2 rfl) ?_
      obtain ⟨hi2, h⟩ := h
      refine va_iald hx hb hK.1 hP 1 0 rfl rfl hi2 dX5_leastFree_12 ?_
      refine lv_iconst (v := (-1)) hx hb dX5_leastFree_13 (by decide) ?_
      refine lv_icmp_ne (tgt := 19) hx hb dX5_leastFree_14 (by decide) (fun c3 => ?_) (fun c3 => ?_)
      · replace h := h.2 c3
        obtain ⟨x2_4, ex2_4⟩ : ∃ z : Int32, z = x2 + 1 := ⟨_, rfl⟩
        refine lv_iinc (v := x2_4) (lv' := [(2, .int x2_4), (0, .ref o), (1, .int x1)]) hx hb dX5_leastFree_19 hl (k := 2) rfl (by rw [ex2_4]; rfl) (by decide) rfl (fun ls hl => ?_)
        replace h := h x2_4 ex2_4
        refine lv_goto (tgt := 2) hx hb dX5_leastFree_22 (by decide) ?_
        exact ih x2_4 _ _ (hP.sub [0, 1] rfl) (hD.sub [0, 1] (by decide) rfl) hS ls (lv_sub hl [1, 2, 0] rfl) h
      · replace h := h.1 c3
        refine lv_iload_n hx hb dX5_leastFree_17 rfl (lv_at hl 2 rfl) ?_
        exact gb_reti C () (hP.sub [0, 1] rfl) (hD.sub [0, 1] (by decide) rfl) hS h dX5_leastFree_18
def wp_X5_leastFree (v_taskOf : Nat → Int32) (a1 : Int32) (post : Int32 → Prop) : Prop := (∃ n2 : Nat, lp_X5_leastFree_2 v_taskOf a1 post n2 0 (post (-1)))
set_option maxHeartbeats 4000000 in
set_option maxRecDepth 100000 in
theorem c_X5_leastFree (l : Launch) (D : va_G) (cI cJ cZ cO : ClassId) (o : Nat) (o_begin : Nat) (o_worker : Nat) (o_taskOf : Nat) (o_endOf : Nat) (v_tasks : Int32) (v_begun : Int64) (v_done : Int64) (v_taskOf : Nat → Int32) (a1 : Int32) (post : Int32 → Prop) (hw : wp_X5_leastFree v_taskOf a1 post) : gb_Ci D cI cJ cZ cO l yX5_leastFree wsX5_leastFree ({ frames := 0, cells := 0, slots := 0, locals := 0 }) [.ref o, .int a1] [(o, .inr (5, [.ref o_begin, .ref o_worker, .int v_tasks, .ref o_taskOf, .ref o_endOf, .long v_begun, .long v_done])), (o_taskOf, .inl (cI, 8, .inl v_taskOf))] (fun (r : Int32) (_ : Unit) => post r ) (fun _ : Unit => [(o, .inr (5, [.ref o_begin, .ref o_worker, .int v_tasks, .ref o_taskOf, .ref o_endOf, .long v_begun, .long v_done])), (o_taskOf, .inl (cI, 8, .inl v_taskOf))]) 0 0 := by
  refine gb_mi (cc := cX5_leastFree) (maxL := 3) (ret := (some .int)) (by decide) rfl (Nat.le_of_ble_eq_true rfl) ?_
  · intro p e s m below meth c A C hP hD hS ls hl
    obtain ⟨hx, hb, hr, hml, hown, hts, hlocks, hnm, hK, hA⟩ := id C
    replace hown : s.vm.findClass RX5 = some m.cls := hown
    have h := hw
    unfold wp_X5_leastFree at h
    replace hl : lv_has ls 3 [(0, .ref o), (1, .int a1)] := hl
    refine lv_iconst (v := 0) hx hb dX5_leastFree_0 (by decide) ?_
    refine lv_istore_n (lv' := [(2, .int 0), (0, .ref o), (1, .int a1)]) hx hb dX5_leastFree_1 rfl hl (by decide) rfl (fun ls hl => ?_)
    obtain ⟨n2, h⟩ := h
    refine ml_X5_leastFree_2 o o_begin o_worker o_taskOf o_endOf v_tasks v_begun v_done v_taskOf a1 a1 C post _ ?_ n2 0 _ _ (hP.sub [0, 1] rfl) (hD.sub [0, 1] (by decide) rfl) hS ls (lv_sub hl [1, 2, 0] rfl) h
    intro H locs hP hD hS ls hl h
    refine lv_iconst (v := (-1)) hx hb dX5_leastFree_25 (by decide) ?_
    exact gb_reti C () (hP.sub [0, 1] rfl) (hD.sub [0, 1] (by decide) rfl) hS h dX5_leastFree_26
/-! OrderKeeper$Schedule.firstReady(LOrderKeeper$Net;[I)I -/
theorem in_X5_firstReady_X2 : ∀ w ∈ wsX20, w ∈ wsX5_firstReady := fun _ h => List.mem_cons_of_mem _ (List.mem_append_right _ h)
theorem in_X5_firstReady_X5 : ∀ w ∈ wsX50, w ∈ wsX5_firstReady := fun _ h => List.mem_cons_of_mem _ (List.mem_append_left _ (List.mem_append_right _ h))
theorem hdS_X5_firstReady : yX5_firstReady.cls ≠ "java/lang/invoke/MethodHandle" ∧ yX5_firstReady.cls ≠ "java/lang/invoke/VarHandle" ∧ (parseMethodDescriptor yX5_firstReady.desc).map (fun d => d.parameters.length) = some 2 := by decide +kernel
theorem hdV_X5_firstReady : yX5_firstReady.cls = RX5 ∧ yX5_firstReady.cls ≠ "java/lang/invoke/MethodHandle" ∧ yX5_firstReady.cls ≠ "java/lang/invoke/VarHandle" ∧ (parseMethodDescriptor yX5_firstReady.desc).map (fun d => d.parameters.length) = some 2 := ⟨rfl, hdS_X5_firstReady⟩
theorem cw_X5_firstReady_74 {R : Room} {s : State} {args : Array Value} (hts : ∀ w ∈ wsX5_firstReady, w.before args s = true) (hN : gb_N s) (hR : 0 + 1 ≤ R.frames ∧ 8 + (3 + 11) + 0 ≤ R.locals) : va_CN R s args RX5 74 yX7_has "OrderKeeper" cX7_has 3 (some .boolean) wsX7_has ({ frames := 0, cells := 0, slots := 0, locals := 0 }) 0 0 2 ∧ (Cond.static yX7_has).before args s = true ∧ True := ⟨va_cnB 2 hts gX5_firstReady_X7_has_n74 rfl rfl rfl (hN.1 (RX5, 74, yX7_has, "OrderKeeper") (List.mem_of_getElem? (i := 12) rfl)) (hts (.initialized RX7) (List.mem_of_getElem? (i := 7) rfl)) hdS_X7_has hR, (hts (.static yX7_has) (List.mem_of_getElem? (i := 6) rfl)), trivial⟩
def jp_X5_firstReady_52 (w2 : Nat → Int32) (x3 : Int32) (x4 : Int32) (s0 : Int32) (kh : ((Int32) → (Int32) → Prop)) : Prop := ((s0 = 0 → ∀ x4_5 : Int32, x4_5 = x4 + 1 → kh x3 x4_5) ∧ (¬ (s0 = 0) → ((x3 = (-1) → ∀ x4_7 : Int32, x4_7 = x4 + 1 → kh x4 x4_7) ∧ (¬ (x3 = (-1)) → vp_in x4 60 ∧ vp_in x3 60 ∧ (((w2 x4.toNatClampNeg) ≤ (w2 x3.toNatClampNeg) → ∀ x4_11 : Int32, x4_11 = x4 + 1 → kh x3 x4_11) ∧ (¬ ((w2 x4.toNatClampNeg) ≤ (w2 x3.toNatClampNeg)) → ∀ x4_12 : Int32, x4_12 = x4 + 1 → kh x4 x4_12))))))
set_option maxHeartbeats 4000000 in
set_option maxRecDepth 100000 in
theorem jl_X5_firstReady_52 {D : va_G} {cI cJ cZ cO : ClassId} {p : Program} {l : Launch} {e : Env} {s : State} {m : MethodId} {below : List Frame} {meth : Method} {c : Code} {A : Nat → Prop} (o : Nat) (o_begin : Nat) (o_worker : Nat) (o_taskOf : Nat) (o_endOf : Nat) (q1 : Nat) (q1_weight : Nat) (q1_after : Nat) (q1_before : Nat) (q1_placeOf : Nat) (q1_taskAt : Nat) (q2 : Nat) (v_tasks : Int32) (v_begun : Int64) (v_done : Int64) (w1_tasks : Int32) (w1_ties : Int32) (w1_before : Nat → Int64) (w2 : Nat → Int32) (x3 : Int32) (x4 : Int32) (s0 : Int32) (C : gb_At D cI cJ cZ cO p s m meth c ([.ref o, .ref q1, .ref q2] : List Value).toArray A yX5_firstReady cX5_firstReady (some .int) 6 wsX5_firstReady) (post : Int32 → Prop) (kh : ((Int32) → (Int32) → Prop)) (hkh : ∀ (x3 : Int32) (x4 : Int32) (H : Heap) (locs : List Loc), va_P D vwCl [(o, .inr (5, [.ref o_begin, .ref o_worker, .int v_tasks, .ref o_taskOf, .ref o_endOf, .long v_begun, .long v_done])), (q1, .inr (2, [.ref q1_weight, .ref q1_after, .ref q1_before, .ref q1_placeOf, .ref q1_taskAt, .int w1_tasks, .int w1_ties])), (q1_before, .inl (cJ, 60, .inr (.inl w1_before))), (q2, .inl (cI, 60, .inl w2))] H → va_D A [(o, .inr (5, [.ref o_begin, .ref o_worker, .int v_tasks, .ref o_taskOf, .ref o_endOf, .long v_begun, .long v_done])), (q1, .inr (2, [.ref q1_weight, .ref q1_after, .ref q1_before, .ref q1_placeOf, .ref q1_taskAt, .int w1_tasks, .int w1_ties])), (q1_before, .inl (cJ, 60, .inr (.inl w1_before))), (q2, .inl (cI, 60, .inl w2))] → va_S A s.heap H locs → ∀ ls : Array Slot, lv_has ls 6 [(0, .ref o), (1, .ref q1), (2, .ref q2), (3, .int x3), (4, .int x4)] → kh x3 x4 → W p l e ({ frames := 1, cells := 0, slots := 0, locals := 22 } : Room) s m ([.ref o, .ref q1, .ref q2] : List Value).toArray below meth c H locs 0 0 (MQ below (va_Qi (fun (r : Int32) (_ : Unit) => post r ) (gb_B D (fun _ : Unit => [(o, .inr (5, [.ref o_begin, .ref o_worker, .int v_tasks, .ref o_taskOf, .ref o_endOf, .long v_begun, .long v_done])), (q1, .inr (2, [.ref q1_weight, .ref q1_after, .ref q1_before, .ref q1_placeOf, .ref q1_taskAt, .int w1_tasks, .int w1_ties])), (q1_before, .inl (cJ, 60, .inr (.inl w1_before))), (q2, .inl (cI, 60, .inl w2))]) A) A) ([.ref o, .ref q1, .ref q2] : List Value).toArray s 0 0 A) (F0 m 5 ls [])) (H : Heap) (locs : List Loc) (hP : va_P D vwCl [(o, .inr (5, [.ref o_begin, .ref o_worker, .int v_tasks, .ref o_taskOf, .ref o_endOf, .long v_begun, .long v_done])), (q1, .inr (2, [.ref q1_weight, .ref q1_after, .ref q1_before, .ref q1_placeOf, .ref q1_taskAt, .int w1_tasks, .int w1_ties])), (q1_before, .inl (cJ, 60, .inr (.inl w1_before))), (q2, .inl (cI, 60, .inl w2))] H) (hD : va_D A [(o, .inr (5, [.ref o_begin, .ref o_worker, .int v_tasks, .ref o_taskOf, .ref o_endOf, .long v_begun, .long v_done])), (q1, .inr (2, [.ref q1_weight, .ref q1_after, .ref q1_before, .ref q1_placeOf, .ref q1_taskAt, .int w1_tasks, .int w1_ties])), (q1_before, .inl (cJ, 60, .inr (.inl w1_before))), (q2, .inl (cI, 60, .inl w2))]) (hS : va_S A s.heap H locs) (ls : Array Slot) (hl : lv_has ls 6 [(0, .ref o), (1, .ref q1), (2, .ref q2), (3, .int x3), (4, .int x4)]) (h : jp_X5_firstReady_52 w2 x3 x4 s0 kh) : W p l e ({ frames := 1, cells := 0, slots := 0, locals := 22 } : Room) s m ([.ref o, .ref q1, .ref q2] : List Value).toArray below meth c H locs 0 0 (MQ below (va_Qi (fun (r : Int32) (_ : Unit) => post r ) (gb_B D (fun _ : Unit => [(o, .inr (5, [.ref o_begin, .ref o_worker, .int v_tasks, .ref o_taskOf, .ref o_endOf, .long v_begun, .long v_done])), (q1, .inr (2, [.ref q1_weight, .ref q1_after, .ref q1_before, .ref q1_placeOf, .ref q1_taskAt, .int w1_tasks, .int w1_ties])), (q1_before, .inl (cJ, 60, .inr (.inl w1_before))), (q2, .inl (cI, 60, .inl w2))]) A) A) ([.ref o, .ref q1, .ref q2] : List Value).toArray s 0 0 A) (F0 m 52 ls [.int s0]) := by
  obtain ⟨hx, hb, hr, hml, hown, hts, hlocks, hnm, hK, hA⟩ := id C
  replace hown : s.vm.findClass RX5 = some m.cls := hown
  unfold jp_X5_firstReady_52 at h
  refine lv_istore (lv' := [(5, .int s0), (0, .ref o), (1, .ref q1), (2, .ref q2), (3, .int x3), (4, .int x4)]) hx hb dX5_firstReady_52 hl (by decide) rfl (fun ls hl => ?_)
  refine lv_iload hx hb dX5_firstReady_54 (lv_at hl 0 rfl) ?_
  refine lv_if_eq (tgt := 77) hx hb dX5_firstReady_56 (by decide) (fun c4 => ?_) (fun c4 => ?_)
  · replace h := h.1 c4
    obtain ⟨x4_5, ex4_5⟩ : ∃ z : Int32, z = x4 + 1 := ⟨_, rfl⟩
    refine lv_iinc (v := x4_5) (lv' := [(4, .int x4_5), (5, .int s0), (0, .ref o), (1, .ref q1), (2, .ref q2), (3, .int x3)]) hx hb dX5_firstReady_77 hl (k := 5) rfl (by rw [ex4_5]; rfl) (by decide) rfl (fun ls hl => ?_)
    replace h := h x4_5 ex4_5
    refine lv_goto (tgt := 5) hx hb dX5_firstReady_80 (by decide) ?_
    exact hkh x3 x4_5 _ _ (hP.sub [0, 1, 2, 3] rfl) (hD.sub [0, 1, 2, 3] (by decide) rfl) hS ls (lv_sub hl [2, 3, 4, 5, 0] rfl) h
  · replace h := h.2 c4
    refine lv_iload_n hx hb dX5_firstReady_59 rfl (lv_at hl 4 rfl) ?_
    refine lv_iconst (v := (-1)) hx hb dX5_firstReady_60 (by decide) ?_
    refine lv_icmp_eq (tgt := 74) hx hb dX5_firstReady_61 (by decide) (fun c6 => ?_) (fun c6 => ?_)
    · replace h := h.1 c6
      refine lv_iload hx hb dX5_firstReady_74 (lv_at hl 5 rfl) ?_
      refine lv_istore_n (lv' := [(3, .int x4), (5, .int s0), (0, .ref o), (1, .ref q1), (2, .ref q2), (4, .int x4)]) hx hb dX5_firstReady_76 rfl hl (by decide) rfl (fun ls hl => ?_)
      obtain ⟨x4_7, ex4_7⟩ : ∃ z : Int32, z = x4 + 1 := ⟨_, rfl⟩
      refine lv_iinc (v := x4_7) (lv' := [(4, .int x4_7), (3, .int x4), (5, .int s0), (0, .ref o), (1, .ref q1), (2, .ref q2)]) hx hb dX5_firstReady_77 hl (k := 5) rfl (by rw [ex4_7]; rfl) (by decide) rfl (fun ls hl => ?_)
      replace h := h x4_7 ex4_7
      refine lv_goto (tgt := 5) hx hb dX5_firstReady_80 (by decide) ?_
      exact hkh x4 x4_7 _ _ (hP.sub [0, 1, 2, 3] rfl) (hD.sub [0, 1, 2, 3] (by decide) rfl) hS ls (lv_sub hl [3, 4, 5, 1, 0] rfl) h
    · replace h := h.2 c6
      refine lv_aload_n hx hb dX5_firstReady_64 rfl (lv_at hl 3 rfl) ?_
      refine lv_iload hx hb dX5_firstReady_65 (lv_at hl 5 rfl) ?_
      obtain ⟨hi8, h⟩ := h
      refine va_iald hx hb hK.1 hP 3 0 rfl rfl hi8 dX5_firstReady_67 ?_
      refine lv_aload_n hx hb dX5_firstReady_68 rfl (lv_at hl 3 rfl) ?_
      refine lv_iload_n hx hb dX5_firstReady_69 rfl (lv_at hl 4 rfl) ?_
      obtain ⟨hi9, h⟩ := h
      refine va_iald hx hb hK.1 hP 3 0 rfl rfl hi9 dX5_firstReady_70 ?_
      refine lv_icmp_le (tgt := 77) hx hb dX5_firstReady_71 (by decide) (fun c10 => ?_) (fun c10 => ?_)
      · replace h := h.1 c10
        obtain ⟨x4_11, ex4_11⟩ : ∃ z : Int32, z = x4 + 1 := ⟨_, rfl⟩
        refine lv_iinc (v := x4_11) (lv' := [(4, .int x4_11), (5, .int s0), (0, .ref o), (1, .ref q1), (2, .ref q2), (3, .int x3)]) hx hb dX5_firstReady_77 hl (k := 5) rfl (by rw [ex4_11]; rfl) (by decide) rfl (fun ls hl => ?_)
        replace h := h x4_11 ex4_11
        refine lv_goto (tgt := 5) hx hb dX5_firstReady_80 (by decide) ?_
        exact hkh x3 x4_11 _ _ (hP.sub [0, 1, 2, 3] rfl) (hD.sub [0, 1, 2, 3] (by decide) rfl) hS ls (lv_sub hl [2, 3, 4, 5, 0] rfl) h
      · replace h := h.2 c10
        refine lv_iload hx hb dX5_firstReady_74 (lv_at hl 5 rfl) ?_
        refine lv_istore_n (lv' := [(3, .int x4), (5, .int s0), (0, .ref o), (1, .ref q1), (2, .ref q2), (4, .int x4)]) hx hb dX5_firstReady_76 rfl hl (by decide) rfl (fun ls hl => ?_)
        obtain ⟨x4_12, ex4_12⟩ : ∃ z : Int32, z = x4 + 1 := ⟨_, rfl⟩
        refine lv_iinc (v := x4_12) (lv' := [(4, .int x4_12), (3, .int x4), (5, .int s0), (0, .ref o), (1, .ref q1), (2, .ref q2)]) hx hb dX5_firstReady_77 hl (k := 5) rfl (by rw [ex4_12]; rfl) (by decide) rfl (fun ls hl => ?_)
        replace h := h x4_12 ex4_12
        refine lv_goto (tgt := 5) hx hb dX5_firstReady_80 (by decide) ?_
        exact hkh x4 x4_12 _ _ (hP.sub [0, 1, 2, 3] rfl) (hD.sub [0, 1, 2, 3] (by decide) rfl) hS ls (lv_sub hl [3, 4, 5, 1, 0] rfl) h
def jp_X5_firstReady_51 (w2 : Nat → Int32) (x3 : Int32) (x4 : Int32) (kh : ((Int32) → (Int32) → Prop)) : Prop := jp_X5_firstReady_52 w2 x3 x4 0 kh
set_option maxHeartbeats 4000000 in
set_option maxRecDepth 100000 in
theorem jl_X5_firstReady_51 {D : va_G} {cI cJ cZ cO : ClassId} {p : Program} {l : Launch} {e : Env} {s : State} {m : MethodId} {below : List Frame} {meth : Method} {c : Code} {A : Nat → Prop} (o : Nat) (o_begin : Nat) (o_worker : Nat) (o_taskOf : Nat) (o_endOf : Nat) (q1 : Nat) (q1_weight : Nat) (q1_after : Nat) (q1_before : Nat) (q1_placeOf : Nat) (q1_taskAt : Nat) (q2 : Nat) (v_tasks : Int32) (v_begun : Int64) (v_done : Int64) (w1_tasks : Int32) (w1_ties : Int32) (w1_before : Nat → Int64) (w2 : Nat → Int32) (x3 : Int32) (x4 : Int32) (C : gb_At D cI cJ cZ cO p s m meth c ([.ref o, .ref q1, .ref q2] : List Value).toArray A yX5_firstReady cX5_firstReady (some .int) 6 wsX5_firstReady) (post : Int32 → Prop) (kh : ((Int32) → (Int32) → Prop)) (hkh : ∀ (x3 : Int32) (x4 : Int32) (H : Heap) (locs : List Loc), va_P D vwCl [(o, .inr (5, [.ref o_begin, .ref o_worker, .int v_tasks, .ref o_taskOf, .ref o_endOf, .long v_begun, .long v_done])), (q1, .inr (2, [.ref q1_weight, .ref q1_after, .ref q1_before, .ref q1_placeOf, .ref q1_taskAt, .int w1_tasks, .int w1_ties])), (q1_before, .inl (cJ, 60, .inr (.inl w1_before))), (q2, .inl (cI, 60, .inl w2))] H → va_D A [(o, .inr (5, [.ref o_begin, .ref o_worker, .int v_tasks, .ref o_taskOf, .ref o_endOf, .long v_begun, .long v_done])), (q1, .inr (2, [.ref q1_weight, .ref q1_after, .ref q1_before, .ref q1_placeOf, .ref q1_taskAt, .int w1_tasks, .int w1_ties])), (q1_before, .inl (cJ, 60, .inr (.inl w1_before))), (q2, .inl (cI, 60, .inl w2))] → va_S A s.heap H locs → ∀ ls : Array Slot, lv_has ls 6 [(0, .ref o), (1, .ref q1), (2, .ref q2), (3, .int x3), (4, .int x4)] → kh x3 x4 → W p l e ({ frames := 1, cells := 0, slots := 0, locals := 22 } : Room) s m ([.ref o, .ref q1, .ref q2] : List Value).toArray below meth c H locs 0 0 (MQ below (va_Qi (fun (r : Int32) (_ : Unit) => post r ) (gb_B D (fun _ : Unit => [(o, .inr (5, [.ref o_begin, .ref o_worker, .int v_tasks, .ref o_taskOf, .ref o_endOf, .long v_begun, .long v_done])), (q1, .inr (2, [.ref q1_weight, .ref q1_after, .ref q1_before, .ref q1_placeOf, .ref q1_taskAt, .int w1_tasks, .int w1_ties])), (q1_before, .inl (cJ, 60, .inr (.inl w1_before))), (q2, .inl (cI, 60, .inl w2))]) A) A) ([.ref o, .ref q1, .ref q2] : List Value).toArray s 0 0 A) (F0 m 5 ls [])) (H : Heap) (locs : List Loc) (hP : va_P D vwCl [(o, .inr (5, [.ref o_begin, .ref o_worker, .int v_tasks, .ref o_taskOf, .ref o_endOf, .long v_begun, .long v_done])), (q1, .inr (2, [.ref q1_weight, .ref q1_after, .ref q1_before, .ref q1_placeOf, .ref q1_taskAt, .int w1_tasks, .int w1_ties])), (q1_before, .inl (cJ, 60, .inr (.inl w1_before))), (q2, .inl (cI, 60, .inl w2))] H) (hD : va_D A [(o, .inr (5, [.ref o_begin, .ref o_worker, .int v_tasks, .ref o_taskOf, .ref o_endOf, .long v_begun, .long v_done])), (q1, .inr (2, [.ref q1_weight, .ref q1_after, .ref q1_before, .ref q1_placeOf, .ref q1_taskAt, .int w1_tasks, .int w1_ties])), (q1_before, .inl (cJ, 60, .inr (.inl w1_before))), (q2, .inl (cI, 60, .inl w2))]) (hS : va_S A s.heap H locs) (ls : Array Slot) (hl : lv_has ls 6 [(0, .ref o), (1, .ref q1), (2, .ref q2), (3, .int x3), (4, .int x4)]) (h : jp_X5_firstReady_51 w2 x3 x4 kh) : W p l e ({ frames := 1, cells := 0, slots := 0, locals := 22 } : Room) s m ([.ref o, .ref q1, .ref q2] : List Value).toArray below meth c H locs 0 0 (MQ below (va_Qi (fun (r : Int32) (_ : Unit) => post r ) (gb_B D (fun _ : Unit => [(o, .inr (5, [.ref o_begin, .ref o_worker, .int v_tasks, .ref o_taskOf, .ref o_endOf, .long v_begun, .long v_done])), (q1, .inr (2, [.ref q1_weight, .ref q1_after, .ref q1_before, .ref q1_placeOf, .ref q1_taskAt, .int w1_tasks, .int w1_ties])), (q1_before, .inl (cJ, 60, .inr (.inl w1_before))), (q2, .inl (cI, 60, .inl w2))]) A) A) ([.ref o, .ref q1, .ref q2] : List Value).toArray s 0 0 A) (F0 m 51 ls []) := by
  obtain ⟨hx, hb, hr, hml, hown, hts, hlocks, hnm, hK, hA⟩ := id C
  replace hown : s.vm.findClass RX5 = some m.cls := hown
  unfold jp_X5_firstReady_51 at h
  refine lv_iconst (v := 0) hx hb dX5_firstReady_51 (by decide) ?_
  exact jl_X5_firstReady_52 o o_begin o_worker o_taskOf o_endOf q1 q1_weight q1_after q1_before q1_placeOf q1_taskAt q2 v_tasks v_begun v_done w1_tasks w1_ties w1_before w2 x3 x4 0 C post _ hkh _ _ (hP.sub [0, 1, 2, 3] rfl) (hD.sub [0, 1, 2, 3] (by decide) rfl) hS ls (lv_sub hl [0, 1, 2, 3, 4] rfl) h
def lp_X5_firstReady_5 (v_tasks : Int32) (v_begun : Int64) (v_done : Int64) (w1_before : Nat → Int64) (w2 : Nat → Int32) : Nat → (Int32) → (Int32) → ((Int32) → Prop) → Prop
  | 0, _, _, _ => False
  | n5 + 1, x3, x4, kx => ((v_tasks ≤ x4 → kx x3) ∧ (¬ (v_tasks ≤ x4) → wp_X7_has v_begun x4 (fun (r_2 : Int32) => ((r_2 = 0 → vp_in x4 60 ∧ (((lg_cmp ((w1_before x4.toNatClampNeg) &&& (v_done ^^^ (-1))) 0) = 0 → jp_X5_firstReady_52 w2 x3 x4 1 (fun (x3 : Int32) (x4 : Int32) => lp_X5_firstReady_5 v_tasks v_begun v_done w1_before w2 n5 x3 x4 kx)) ∧ (¬ ((lg_cmp ((w1_before x4.toNatClampNeg) &&& (v_done ^^^ (-1))) 0) = 0) → jp_X5_firstReady_51 w2 x3 x4 (fun (x3 : Int32) (x4 : Int32) => lp_X5_firstReady_5 v_tasks v_begun v_done w1_before w2 n5 x3 x4 kx)))) ∧ (¬ (r_2 = 0) → jp_X5_firstReady_51 w2 x3 x4 (fun (x3 : Int32) (x4 : Int32) => lp_X5_firstReady_5 v_tasks v_begun v_done w1_before w2 n5 x3 x4 kx))))))
set_option maxHeartbeats 4000000 in
set_option maxRecDepth 100000 in
theorem ml_X5_firstReady_5 {D : va_G} {cI cJ cZ cO : ClassId} {p : Program} {l : Launch} {e : Env} {s : State} {m : MethodId} {below : List Frame} {meth : Method} {c : Code} {A : Nat → Prop} (o : Nat) (o_begin : Nat) (o_worker : Nat) (o_taskOf : Nat) (o_endOf : Nat) (q1 : Nat) (q1_weight : Nat) (q1_after : Nat) (q1_before : Nat) (q1_placeOf : Nat) (q1_taskAt : Nat) (q2 : Nat) (v_tasks : Int32) (v_begun : Int64) (v_done : Int64) (w1_tasks : Int32) (w1_ties : Int32) (w1_before : Nat → Int64) (w2 : Nat → Int32) (C : gb_At D cI cJ cZ cO p s m meth c ([.ref o, .ref q1, .ref q2] : List Value).toArray A yX5_firstReady cX5_firstReady (some .int) 6 wsX5_firstReady) (post : Int32 → Prop) (kx : ((Int32) → Prop)) (hkx : ∀ (x3 : Int32) (H : Heap) (locs : List Loc), va_P D vwCl [(o, .inr (5, [.ref o_begin, .ref o_worker, .int v_tasks, .ref o_taskOf, .ref o_endOf, .long v_begun, .long v_done])), (q1, .inr (2, [.ref q1_weight, .ref q1_after, .ref q1_before, .ref q1_placeOf, .ref q1_taskAt, .int w1_tasks, .int w1_ties])), (q1_before, .inl (cJ, 60, .inr (.inl w1_before))), (q2, .inl (cI, 60, .inl w2))] H → va_D A [(o, .inr (5, [.ref o_begin, .ref o_worker, .int v_tasks, .ref o_taskOf, .ref o_endOf, .long v_begun, .long v_done])), (q1, .inr (2, [.ref q1_weight, .ref q1_after, .ref q1_before, .ref q1_placeOf, .ref q1_taskAt, .int w1_tasks, .int w1_ties])), (q1_before, .inl (cJ, 60, .inr (.inl w1_before))), (q2, .inl (cI, 60, .inl w2))] → va_S A s.heap H locs → ∀ ls : Array Slot, lv_has ls 6 [(3, .int x3)] → kx x3 → W p l e ({ frames := 1, cells := 0, slots := 0, locals := 22 } : Room) s m ([.ref o, .ref q1, .ref q2] : List Value).toArray below meth c H locs 0 0 (MQ below (va_Qi (fun (r : Int32) (_ : Unit) => post r ) (gb_B D (fun _ : Unit => [(o, .inr (5, [.ref o_begin, .ref o_worker, .int v_tasks, .ref o_taskOf, .ref o_endOf, .long v_begun, .long v_done])), (q1, .inr (2, [.ref q1_weight, .ref q1_after, .ref q1_before, .ref q1_placeOf, .ref q1_taskAt, .int w1_tasks, .int w1_ties])), (q1_before, .inl (cJ, 60, .inr (.inl w1_before))), (q2, .inl (cI, 60, .inl w2))]) A) A) ([.ref o, .ref q1, .ref q2] : List Value).toArray s 0 0 A) (F0 m 83 ls [])) :
    ∀ (n5 : Nat) (x3 : Int32) (x4 : Int32) (H : Heap) (locs : List Loc), va_P D vwCl [(o, .inr (5, [.ref o_begin, .ref o_worker, .int v_tasks, .ref o_taskOf, .ref o_endOf, .long v_begun, .long v_done])), (q1, .inr (2, [.ref q1_weight, .ref q1_after, .ref q1_before, .ref q1_placeOf, .ref q1_taskAt, .int w1_tasks, .int w1_ties])), (q1_before, .inl (cJ, 60, .inr (.inl w1_before))), (q2, .inl (cI, 60, .inl w2))] H → va_D A [(o, .inr (5, [.ref o_begin, .ref o_worker, .int v_tasks, .ref o_taskOf, .ref o_endOf, .long v_begun, .long v_done])), (q1, .inr (2, [.ref q1_weight, .ref q1_after, .ref q1_before, .ref q1_placeOf, .ref q1_taskAt, .int w1_tasks, .int w1_ties])), (q1_before, .inl (cJ, 60, .inr (.inl w1_before))), (q2, .inl (cI, 60, .inl w2))] → va_S A s.heap H locs → ∀ ls : Array Slot, lv_has ls 6 [(0, .ref o), (1, .ref q1), (2, .ref q2), (3, .int x3), (4, .int x4)] → lp_X5_firstReady_5 v_tasks v_begun v_done w1_before w2 n5 x3 x4 kx → W p l e ({ frames := 1, cells := 0, slots := 0, locals := 22 } : Room) s m ([.ref o, .ref q1, .ref q2] : List Value).toArray below meth c H locs 0 0 (MQ below (va_Qi (fun (r : Int32) (_ : Unit) => post r ) (gb_B D (fun _ : Unit => [(o, .inr (5, [.ref o_begin, .ref o_worker, .int v_tasks, .ref o_taskOf, .ref o_endOf, .long v_begun, .long v_done])), (q1, .inr (2, [.ref q1_weight, .ref q1_after, .ref q1_before, .ref q1_placeOf, .ref q1_taskAt, .int w1_tasks, .int w1_ties])), (q1_before, .inl (cJ, 60, .inr (.inl w1_before))), (q2, .inl (cI, 60, .inl w2))]) A) A) ([.ref o, .ref q1, .ref q2] : List Value).toArray s 0 0 A) (F0 m 5 ls []) := by
  obtain ⟨hx, hb, hr, hml, hown, hts, hlocks, hnm, hK, hA⟩ := id C
  replace hown : s.vm.findClass RX5 = some m.cls := hown
  intro n5
  induction n5 with
  | zero => intro x3 x4 H locs hP hD hS ls hl h; exact False.elim h
  | succ n5 ih =>
    intro x3 x4 H locs hP hD hS ls hl h
    rw [lp_X5_firstReady_5] at h
    refine lv_iload hx hb dX5_firstReady_5 (lv_at hl 4 rfl) ?_
    refine lv_aload_n hx hb dX5_firstReady_7 rfl (lv_at hl 0 rfl) ?_
    refine va_get (D := D) (ci := 5) (v := .int v_tasks) (C := RX5) (T := TX5) (N := 7) hx hb hts in_X5_firstReady_X5 hown hK.1 hP 0 rfl rfl 2 (by decide) (hts (.fieldLink RX5 30 "OrderKeeper$Schedule" "tasks" "I") (List.mem_of_getElem? (i := 1) rfl)) (fun _ h9 => h9) rfl dX5_firstReady_8 ?_
    refine lv_icmp_ge (tgt := 83) hx hb dX5_firstReady_11 (by decide) (fun c1 => ?_) (fun c1 => ?_)
    · replace h := h.1 c1
      exact hkx x3 _ _ (hP.sub [0, 1, 2, 3] rfl) (hD.sub [0, 1, 2, 3] (by decide) rfl) hS ls (lv_sub hl [3] rfl) h
    · replace h := h.2 c1
      refine lv_aload_n hx hb dX5_firstReady_14 rfl (lv_at hl 0 rfl) ?_
      refine va_get (D := D) (ci := 5) (v := .long v_begun) (C := RX5) (T := TX5) (N := 7) hx hb hts in_X5_firstReady_X5 hown hK.1 hP 0 rfl rfl 5 (by decide) (hts (.fieldLink RX5 31 "OrderKeeper$Schedule" "begun" "J") (List.mem_of_getElem? (i := 2) rfl)) (fun _ h9 => h9) rfl dX5_firstReady_15 ?_
      refine lv_iload hx hb dX5_firstReady_18 (lv_at hl 4 rfl) ?_
      refine gb_ki (wc := []) (wr := [(o, .inr (5, [.ref o_begin, .ref o_worker, .int v_tasks, .ref o_taskOf, .ref o_endOf, .long v_begun, .long v_done])), (q1, .inr (2, [.ref q1_weight, .ref q1_after, .ref q1_before, .ref q1_placeOf, .ref q1_taskAt, .int w1_tasks, .int w1_ties])), (q1_before, .inl (cJ, 60, .inr (.inl w1_before))), (q2, .inl (cI, 60, .inl w2))]) C hP hD hS [] [0, 1, 2, 3] rfl rfl (by decide) (gb_rSN (As := [.long v_begun, .int x4]) (rest := []) C ((c_X7_has l D cI cJ cZ cO v_begun x4 _ h) _) rfl (cw_X5_firstReady_74 hts hK.2 ⟨Nat.le_of_ble_eq_true rfl, Nat.le_of_ble_eq_true rfl⟩) rfl hl.1 rfl (Nat.le_of_ble_eq_true rfl) dX5_firstReady_20 ⟨Nat.zero_le _, Nat.zero_le _⟩) ?_
      rintro r_2 _ H locs h hP hD hS
      try dsimp only at h
      replace hP : va_P D vwCl [(o, .inr (5, [.ref o_begin, .ref o_worker, .int v_tasks, .ref o_taskOf, .ref o_endOf, .long v_begun, .long v_done])), (q1, .inr (2, [.ref q1_weight, .ref q1_after, .ref q1_before, .ref q1_placeOf, .ref q1_taskAt, .int w1_tasks, .int w1_ties])), (q1_before, .inl (cJ, 60, .inr (.inl w1_before))), (q2, .inl (cI, 60, .inl w2))] H := hP
      replace hD : va_D A [(o, .inr (5, [.ref o_begin, .ref o_worker, .int v_tasks, .ref o_taskOf, .ref o_endOf, .long v_begun, .long v_done])), (q1, .inr (2, [.ref q1_weight, .ref q1_after, .ref q1_before, .ref q1_placeOf, .ref q1_taskAt, .int w1_tasks, .int w1_ties])), (q1_before, .inl (cJ, 60, .inr (.inl w1_before))), (q2, .inl (cI, 60, .inl w2))] := hD
      refine lv_if_ne (tgt := 51) hx hb dX5_firstReady_23 (by decide) (fun c3 => ?_) (fun c3 => ?_)
      · replace h := h.2 c3
        exact jl_X5_firstReady_51 o o_begin o_worker o_taskOf o_endOf q1 q1_weight q1_after q1_before q1_placeOf q1_taskAt q2 v_tasks v_begun v_done w1_tasks w1_ties w1_before w2 x3 x4 C post _ ih _ _ (hP.sub [0, 1, 2, 3] rfl) (hD.sub [0, 1, 2, 3] (by decide) rfl) hS ls (lv_sub hl [0, 1, 2, 3, 4] rfl) h
      · replace h := h.1 c3
        refine lv_aload_n hx hb dX5_firstReady_26 rfl (lv_at hl 1 rfl) ?_
        refine va_get (D := D) (ci := 2) (v := .ref q1_before) (C := RX2) (T := TX2) (N := 7) hx hb hts in_X5_firstReady_X2 hown hK.1 hP 1 rfl rfl 2 (by decide) (hts (.fieldLink RX5 78 "OrderKeeper$Net" "before" "[J") (List.mem_of_getElem? (i := 3) rfl)) (fun _ h9 => h9) rfl dX5_firstReady_27 ?_
        refine lv_iload hx hb dX5_firstReady_30 (lv_at hl 4 rfl) ?_
        obtain ⟨hi13, h⟩ := h
        refine va_lald hx hb hK.1 hP 2 1 rfl rfl hi13 dX5_firstReady_32 ?_
        refine lv_aload_n hx hb dX5_firstReady_33 rfl (lv_at hl 0 rfl) ?_
        refine va_get (D := D) (ci := 5) (v := .long v_done) (C := RX5) (T := TX5) (N := 7) hx hb hts in_X5_firstReady_X5 hown hK.1 hP 0 rfl rfl 6 (by decide) (hts (.fieldLink RX5 35 "OrderKeeper$Schedule" "done" "J") (List.mem_of_getElem? (i := 4) rfl)) (fun _ h9 => h9) rfl dX5_firstReady_34 ?_
        refine lv_ldc2 (v := (-1)) hx hb hown (hts (.constantLong RX5 82 (-1)) (List.mem_of_getElem? (i := 5) rfl)) dX5_firstReady_37 ?_
        refine lv_lxor hx hb dX5_firstReady_40 ?_
        refine lv_land hx hb dX5_firstReady_41 ?_
        refine lv_lconst (v := 0) hx hb dX5_firstReady_42 (by decide) ?_
        refine W.lcmp hx hb dX5_firstReady_43 ?_
        refine lv_if_ne (tgt := 51) hx hb dX5_firstReady_44 (by decide) (fun c14 => ?_) (fun c14 => ?_)
        · replace h := h.2 c14
          exact jl_X5_firstReady_51 o o_begin o_worker o_taskOf o_endOf q1 q1_weight q1_after q1_before q1_placeOf q1_taskAt q2 v_tasks v_begun v_done w1_tasks w1_ties w1_before w2 x3 x4 C post _ ih _ _ (hP.sub [0, 1, 2, 3] rfl) (hD.sub [0, 1, 2, 3] (by decide) rfl) hS ls (lv_sub hl [0, 1, 2, 3, 4] rfl) h
        · replace h := h.1 c14
          refine lv_iconst (v := 1) hx hb dX5_firstReady_47 (by decide) ?_
          refine lv_goto (tgt := 52) hx hb dX5_firstReady_48 (by decide) ?_
          exact jl_X5_firstReady_52 o o_begin o_worker o_taskOf o_endOf q1 q1_weight q1_after q1_before q1_placeOf q1_taskAt q2 v_tasks v_begun v_done w1_tasks w1_ties w1_before w2 x3 x4 1 C post _ ih _ _ (hP.sub [0, 1, 2, 3] rfl) (hD.sub [0, 1, 2, 3] (by decide) rfl) hS ls (lv_sub hl [0, 1, 2, 3, 4] rfl) h
def wp_X5_firstReady (v_tasks : Int32) (v_begun : Int64) (v_done : Int64) (w1_before : Nat → Int64) (w2 : Nat → Int32) (post : Int32 → Prop) : Prop := (∃ n5 : Nat, lp_X5_firstReady_5 v_tasks v_begun v_done w1_before w2 n5 (-1) 0 (fun (x3_15 : Int32) => post x3_15))
set_option maxHeartbeats 4000000 in
set_option maxRecDepth 100000 in
theorem c_X5_firstReady (l : Launch) (D : va_G) (cI cJ cZ cO : ClassId) (o : Nat) (o_begin : Nat) (o_worker : Nat) (o_taskOf : Nat) (o_endOf : Nat) (q1 : Nat) (q1_weight : Nat) (q1_after : Nat) (q1_before : Nat) (q1_placeOf : Nat) (q1_taskAt : Nat) (q2 : Nat) (v_tasks : Int32) (v_begun : Int64) (v_done : Int64) (w1_tasks : Int32) (w1_ties : Int32) (w1_before : Nat → Int64) (w2 : Nat → Int32) (post : Int32 → Prop) (hw : wp_X5_firstReady v_tasks v_begun v_done w1_before w2 post) : gb_Ci D cI cJ cZ cO l yX5_firstReady wsX5_firstReady ({ frames := 1, cells := 0, slots := 0, locals := 22 }) [.ref o, .ref q1, .ref q2] [(o, .inr (5, [.ref o_begin, .ref o_worker, .int v_tasks, .ref o_taskOf, .ref o_endOf, .long v_begun, .long v_done])), (q1, .inr (2, [.ref q1_weight, .ref q1_after, .ref q1_before, .ref q1_placeOf, .ref q1_taskAt, .int w1_tasks, .int w1_ties])), (q1_before, .inl (cJ, 60, .inr (.inl w1_before))), (q2, .inl (cI, 60, .inl w2))] (fun (r : Int32) (_ : Unit) => post r ) (fun _ : Unit => [(o, .inr (5, [.ref o_begin, .ref o_worker, .int v_tasks, .ref o_taskOf, .ref o_endOf, .long v_begun, .long v_done])), (q1, .inr (2, [.ref q1_weight, .ref q1_after, .ref q1_before, .ref q1_placeOf, .ref q1_taskAt, .int w1_tasks, .int w1_ties])), (q1_before, .inl (cJ, 60, .inr (.inl w1_before))), (q2, .inl (cI, 60, .inl w2))]) 0 0 := by
  refine gb_mi (cc := cX5_firstReady) (maxL := 6) (ret := (some .int)) (by decide) rfl (Nat.le_of_ble_eq_true rfl) ?_
  · intro p e s m below meth c A C hP hD hS ls hl
    obtain ⟨hx, hb, hr, hml, hown, hts, hlocks, hnm, hK, hA⟩ := id C
    replace hown : s.vm.findClass RX5 = some m.cls := hown
    have h := hw
    unfold wp_X5_firstReady at h
    replace hl : lv_has ls 6 [(0, .ref o), (1, .ref q1), (2, .ref q2)] := hl
    refine lv_iconst (v := (-1)) hx hb dX5_firstReady_0 (by decide) ?_
    refine lv_istore_n (lv' := [(3, .int (-1)), (0, .ref o), (1, .ref q1), (2, .ref q2)]) hx hb dX5_firstReady_1 rfl hl (by decide) rfl (fun ls hl => ?_)
    refine lv_iconst (v := 0) hx hb dX5_firstReady_2 (by decide) ?_
    refine lv_istore (lv' := [(4, .int 0), (3, .int (-1)), (0, .ref o), (1, .ref q1), (2, .ref q2)]) hx hb dX5_firstReady_3 hl (by decide) rfl (fun ls hl => ?_)
    obtain ⟨n5, h⟩ := h
    refine ml_X5_firstReady_5 o o_begin o_worker o_taskOf o_endOf q1 q1_weight q1_after q1_before q1_placeOf q1_taskAt q2 v_tasks v_begun v_done w1_tasks w1_ties w1_before w2 C post _ ?_ n5 (-1) 0 _ _ (hP.sub [0, 1, 2, 3] rfl) (hD.sub [0, 1, 2, 3] (by decide) rfl) hS ls (lv_sub hl [2, 3, 4, 1, 0] rfl) h
    intro x3_15 H locs hP hD hS ls hl h
    refine lv_iload_n hx hb dX5_firstReady_83 rfl (lv_at hl 0 rfl) ?_
    exact gb_reti C () (hP.sub [0, 1, 2, 3] rfl) (hD.sub [0, 1, 2, 3] (by decide) rfl) hS h dX5_firstReady_84
/-! OrderKeeper$Schedule.nextEnd(I)I -/
theorem in_X5_nextEnd_X5 : ∀ w ∈ wsX50, w ∈ wsX5_nextEnd := fun _ h => List.mem_cons_of_mem _ (List.mem_append_right _ h)
theorem hdS_X5_nextEnd : yX5_nextEnd.cls ≠ "java/lang/invoke/MethodHandle" ∧ yX5_nextEnd.cls ≠ "java/lang/invoke/VarHandle" ∧ (parseMethodDescriptor yX5_nextEnd.desc).map (fun d => d.parameters.length) = some 1 := by decide +kernel
theorem hdV_X5_nextEnd : yX5_nextEnd.cls = RX5 ∧ yX5_nextEnd.cls ≠ "java/lang/invoke/MethodHandle" ∧ yX5_nextEnd.cls ≠ "java/lang/invoke/VarHandle" ∧ (parseMethodDescriptor yX5_nextEnd.desc).map (fun d => d.parameters.length) = some 1 := ⟨rfl, hdS_X5_nextEnd⟩
def lp_X5_nextEnd_4 (v_taskOf : Nat → Int32) (v_endOf : Nat → Int32) (x1 : Int32) : Nat → (Int32) → (Int32) → ((Int32) → Prop) → Prop
  | 0, _, _, _ => False
  | n4 + 1, x2, x3, kx => ((x1 ≤ x3 → kx x2) ∧ (¬ (x1 ≤ x3) → vp_in x3 8 ∧ (((v_taskOf x3.toNatClampNeg) = (-1) → ∀ x3_4 : Int32, x3_4 = x3 + 1 → lp_X5_nextEnd_4 v_taskOf v_endOf x1 n4 x2 x3_4 kx) ∧ (¬ ((v_taskOf x3.toNatClampNeg) = (-1)) → ((x2 = (-1) → vp_in x3 8 ∧ ∀ x2_7 : Int32, x2_7 = v_endOf x3.toNatClampNeg → ∀ x3_8 : Int32, x3_8 = x3 + 1 → lp_X5_nextEnd_4 v_taskOf v_endOf x1 n4 x2_7 x3_8 kx) ∧ (¬ (x2 = (-1)) → vp_in x3 8 ∧ ((x2 ≤ (v_endOf x3.toNatClampNeg) → ∀ x3_11 : Int32, x3_11 = x3 + 1 → lp_X5_nextEnd_4 v_taskOf v_endOf x1 n4 x2 x3_11 kx) ∧ (¬ (x2 ≤ (v_endOf x3.toNatClampNeg)) → vp_in x3 8 ∧ ∀ x2_13 : Int32, x2_13 = v_endOf x3.toNatClampNeg → ∀ x3_14 : Int32, x3_14 = x3 + 1 → lp_X5_nextEnd_4 v_taskOf v_endOf x1 n4 x2_13 x3_14 kx))))))))
set_option maxHeartbeats 4000000 in
set_option maxRecDepth 100000 in
theorem ml_X5_nextEnd_4 {D : va_G} {cI cJ cZ cO : ClassId} {p : Program} {l : Launch} {e : Env} {s : State} {m : MethodId} {below : List Frame} {meth : Method} {c : Code} {A : Nat → Prop} (o : Nat) (o_begin : Nat) (o_worker : Nat) (o_taskOf : Nat) (o_endOf : Nat) (v_tasks : Int32) (v_begun : Int64) (v_done : Int64) (v_taskOf : Nat → Int32) (v_endOf : Nat → Int32) (a1 : Int32) (x1 : Int32) (C : gb_At D cI cJ cZ cO p s m meth c ([.ref o, .int a1] : List Value).toArray A yX5_nextEnd cX5_nextEnd (some .int) 4 wsX5_nextEnd) (post : Int32 → Prop) (kx : ((Int32) → Prop)) (hkx : ∀ (x2 : Int32) (H : Heap) (locs : List Loc), va_P D vwCl [(o, .inr (5, [.ref o_begin, .ref o_worker, .int v_tasks, .ref o_taskOf, .ref o_endOf, .long v_begun, .long v_done])), (o_taskOf, .inl (cI, 8, .inl v_taskOf)), (o_endOf, .inl (cI, 8, .inl v_endOf))] H → va_D A [(o, .inr (5, [.ref o_begin, .ref o_worker, .int v_tasks, .ref o_taskOf, .ref o_endOf, .long v_begun, .long v_done])), (o_taskOf, .inl (cI, 8, .inl v_taskOf)), (o_endOf, .inl (cI, 8, .inl v_endOf))] → va_S A s.heap H locs → ∀ ls : Array Slot, lv_has ls 4 [(2, .int x2)] → kx x2 → W p l e ({ frames := 0, cells := 0, slots := 0, locals := 0 } : Room) s m ([.ref o, .int a1] : List Value).toArray below meth c H locs 0 0 (MQ below (va_Qi (fun (r : Int32) (_ : Unit) => post r ) (gb_B D (fun _ : Unit => [(o, .inr (5, [.ref o_begin, .ref o_worker, .int v_tasks, .ref o_taskOf, .ref o_endOf, .long v_begun, .long v_done])), (o_taskOf, .inl (cI, 8, .inl v_taskOf)), (o_endOf, .inl (cI, 8, .inl v_endOf))]) A) A) ([.ref o, .int a1] : List Value).toArray s 0 0 A) (F0 m 47 ls [])) :
    ∀ (n4 : Nat) (x2 : Int32) (x3 : Int32) (H : Heap) (locs : List Loc), va_P D vwCl [(o, .inr (5, [.ref o_begin, .ref o_worker, .int v_tasks, .ref o_taskOf, .ref o_endOf, .long v_begun, .long v_done])), (o_taskOf, .inl (cI, 8, .inl v_taskOf)), (o_endOf, .inl (cI, 8, .inl v_endOf))] H → va_D A [(o, .inr (5, [.ref o_begin, .ref o_worker, .int v_tasks, .ref o_taskOf, .ref o_endOf, .long v_begun, .long v_done])), (o_taskOf, .inl (cI, 8, .inl v_taskOf)), (o_endOf, .inl (cI, 8, .inl v_endOf))] → va_S A s.heap H locs → ∀ ls : Array Slot, lv_has ls 4 [(0, .ref o), (1, .int x1), (2, .int x2), (3, .int x3)] → lp_X5_nextEnd_4 v_taskOf v_endOf x1 n4 x2 x3 kx → W p l e ({ frames := 0, cells := 0, slots := 0, locals := 0 } : Room) s m ([.ref o, .int a1] : List Value).toArray below meth c H locs 0 0 (MQ below (va_Qi (fun (r : Int32) (_ : Unit) => post r ) (gb_B D (fun _ : Unit => [(o, .inr (5, [.ref o_begin, .ref o_worker, .int v_tasks, .ref o_taskOf, .ref o_endOf, .long v_begun, .long v_done])), (o_taskOf, .inl (cI, 8, .inl v_taskOf)), (o_endOf, .inl (cI, 8, .inl v_endOf))]) A) A) ([.ref o, .int a1] : List Value).toArray s 0 0 A) (F0 m 4 ls []) := by
  obtain ⟨hx, hb, hr, hml, hown, hts, hlocks, hnm, hK, hA⟩ := id C
  replace hown : s.vm.findClass RX5 = some m.cls := hown
  intro n4
  induction n4 with
  | zero => intro x2 x3 H locs hP hD hS ls hl h; exact False.elim h
  | succ n4 ih =>
    intro x2 x3 H locs hP hD hS ls hl h
    rw [lp_X5_nextEnd_4] at h
    refine lv_iload_n hx hb dX5_nextEnd_4 rfl (lv_at hl 3 rfl) ?_
    refine lv_iload_n hx hb dX5_nextEnd_5 rfl (lv_at hl 1 rfl) ?_
    refine lv_icmp_ge (tgt := 47) hx hb dX5_nextEnd_6 (by decide) (fun c1 => ?_) (fun c1 => ?_)
    · replace h := h.1 c1
      exact hkx x2 _ _ (hP.sub [0, 1, 2] rfl) (hD.sub [0, 1, 2] (by decide) rfl) hS ls (lv_sub hl [2] rfl) h
    · replace h := h.2 c1
      refine lv_aload_n hx hb dX5_nextEnd_9 rfl (lv_at hl 0 rfl) ?_
      refine va_get (D := D) (ci := 5) (v := .ref o_taskOf) (C := RX5) (T := TX5) (N := 7) hx hb hts in_X5_nextEnd_X5 hown hK.1 hP 0 rfl rfl 3 (by decide) (hts (.fieldLink RX5 18 "OrderKeeper$Schedule" "taskOf" "[I") (List.mem_of_getElem? (i := 1) rfl)) (fun _ h9 => h9) rfl dX5_nextEnd_10 ?_
      refine lv_iload_n hx hb dX5_nextEnd_13 rfl (lv_at hl 3 rfl) ?_
      obtain ⟨hi2, h⟩ := h
      refine va_iald hx hb hK.1 hP 1 0 rfl rfl hi2 dX5_nextEnd_14 ?_
      refine lv_iconst (v := (-1)) hx hb dX5_nextEnd_15 (by decide) ?_
      refine lv_icmp_eq (tgt := 41) hx hb dX5_nextEnd_16 (by decide) (fun c3 => ?_) (fun c3 => ?_)
      · replace h := h.1 c3
        obtain ⟨x3_4, ex3_4⟩ : ∃ z : Int32, z = x3 + 1 := ⟨_, rfl⟩
        refine lv_iinc (v := x3_4) (lv' := [(3, .int x3_4), (0, .ref o), (1, .int x1), (2, .int x2)]) hx hb dX5_nextEnd_41 hl (k := 3) rfl (by rw [ex3_4]; rfl) (by decide) rfl (fun ls hl => ?_)
        replace h := h x3_4 ex3_4
        refine lv_goto (tgt := 4) hx hb dX5_nextEnd_44 (by decide) ?_
        exact ih x2 x3_4 _ _ (hP.sub [0, 1, 2] rfl) (hD.sub [0, 1, 2] (by decide) rfl) hS ls (lv_sub hl [1, 2, 3, 0] rfl) h
      · replace h := h.2 c3
        refine lv_iload_n hx hb dX5_nextEnd_19 rfl (lv_at hl 2 rfl) ?_
        refine lv_iconst (v := (-1)) hx hb dX5_nextEnd_20 (by decide) ?_
        refine lv_icmp_eq (tgt := 34) hx hb dX5_nextEnd_21 (by decide) (fun c5 => ?_) (fun c5 => ?_)
        · replace h := h.1 c5
          refine lv_aload_n hx hb dX5_nextEnd_34 rfl (lv_at hl 0 rfl) ?_
          refine va_get (D := D) (ci := 5) (v := .ref o_endOf) (C := RX5) (T := TX5) (N := 7) hx hb hts in_X5_nextEnd_X5 hown hK.1 hP 0 rfl rfl 4 (by decide) (hts (.fieldLink RX5 21 "OrderKeeper$Schedule" "endOf" "[I") (List.mem_of_getElem? (i := 2) rfl)) (fun _ h9 => h9) rfl dX5_nextEnd_35 ?_
          refine lv_iload_n hx hb dX5_nextEnd_38 rfl (lv_at hl 3 rfl) ?_
          obtain ⟨hi6, h⟩ := h
          refine va_iald hx hb hK.1 hP 2 0 rfl rfl hi6 dX5_nextEnd_39 ?_
          refine lv_topi (fun x2_7 ex2_7 => ?_)
          replace h := h x2_7 ex2_7
          refine lv_istore_n (lv' := [(2, .int x2_7), (0, .ref o), (1, .int x1), (3, .int x3)]) hx hb dX5_nextEnd_40 rfl hl (by decide) rfl (fun ls hl => ?_)
          obtain ⟨x3_8, ex3_8⟩ : ∃ z : Int32, z = x3 + 1 := ⟨_, rfl⟩
          refine lv_iinc (v := x3_8) (lv' := [(3, .int x3_8), (2, .int x2_7), (0, .ref o), (1, .int x1)]) hx hb dX5_nextEnd_41 hl (k := 3) rfl (by rw [ex3_8]; rfl) (by decide) rfl (fun ls hl => ?_)
          replace h := h x3_8 ex3_8
          refine lv_goto (tgt := 4) hx hb dX5_nextEnd_44 (by decide) ?_
          exact ih x2_7 x3_8 _ _ (hP.sub [0, 1, 2] rfl) (hD.sub [0, 1, 2] (by decide) rfl) hS ls (lv_sub hl [2, 3, 1, 0] rfl) h
        · replace h := h.2 c5
          refine lv_aload_n hx hb dX5_nextEnd_24 rfl (lv_at hl 0 rfl) ?_
          refine va_get (D := D) (ci := 5) (v := .ref o_endOf) (C := RX5) (T := TX5) (N := 7) hx hb hts in_X5_nextEnd_X5 hown hK.1 hP 0 rfl rfl 4 (by decide) (hts (.fieldLink RX5 21 "OrderKeeper$Schedule" "endOf" "[I") (List.mem_of_getElem? (i := 2) rfl)) (fun _ h9 => h9) rfl dX5_nextEnd_25 ?_
          refine lv_iload_n hx hb dX5_nextEnd_28 rfl (lv_at hl 3 rfl) ?_
          obtain ⟨hi9, h⟩ := h
          refine va_iald hx hb hK.1 hP 2 0 rfl rfl hi9 dX5_nextEnd_29 ?_
          refine lv_iload_n hx hb dX5_nextEnd_30 rfl (lv_at hl 2 rfl) ?_
          refine lv_icmp_ge (tgt := 41) hx hb dX5_nextEnd_31 (by decide) (fun c10 => ?_) (fun c10 => ?_)
          · replace h := h.1 c10
            obtain ⟨x3_11, ex3_11⟩ : ∃ z : Int32, z = x3 + 1 := ⟨_, rfl⟩
            refine lv_iinc (v := x3_11) (lv' := [(3, .int x3_11), (0, .ref o), (1, .int x1), (2, .int x2)]) hx hb dX5_nextEnd_41 hl (k := 3) rfl (by rw [ex3_11]; rfl) (by decide) rfl (fun ls hl => ?_)
            replace h := h x3_11 ex3_11
            refine lv_goto (tgt := 4) hx hb dX5_nextEnd_44 (by decide) ?_
            exact ih x2 x3_11 _ _ (hP.sub [0, 1, 2] rfl) (hD.sub [0, 1, 2] (by decide) rfl) hS ls (lv_sub hl [1, 2, 3, 0] rfl) h
          · replace h := h.2 c10
            refine lv_aload_n hx hb dX5_nextEnd_34 rfl (lv_at hl 0 rfl) ?_
            refine va_get (D := D) (ci := 5) (v := .ref o_endOf) (C := RX5) (T := TX5) (N := 7) hx hb hts in_X5_nextEnd_X5 hown hK.1 hP 0 rfl rfl 4 (by decide) (hts (.fieldLink RX5 21 "OrderKeeper$Schedule" "endOf" "[I") (List.mem_of_getElem? (i := 2) rfl)) (fun _ h9 => h9) rfl dX5_nextEnd_35 ?_
            refine lv_iload_n hx hb dX5_nextEnd_38 rfl (lv_at hl 3 rfl) ?_
            obtain ⟨hi12, h⟩ := h
            refine va_iald hx hb hK.1 hP 2 0 rfl rfl hi12 dX5_nextEnd_39 ?_
            refine lv_topi (fun x2_13 ex2_13 => ?_)
            replace h := h x2_13 ex2_13
            refine lv_istore_n (lv' := [(2, .int x2_13), (0, .ref o), (1, .int x1), (3, .int x3)]) hx hb dX5_nextEnd_40 rfl hl (by decide) rfl (fun ls hl => ?_)
            obtain ⟨x3_14, ex3_14⟩ : ∃ z : Int32, z = x3 + 1 := ⟨_, rfl⟩
            refine lv_iinc (v := x3_14) (lv' := [(3, .int x3_14), (2, .int x2_13), (0, .ref o), (1, .int x1)]) hx hb dX5_nextEnd_41 hl (k := 3) rfl (by rw [ex3_14]; rfl) (by decide) rfl (fun ls hl => ?_)
            replace h := h x3_14 ex3_14
            refine lv_goto (tgt := 4) hx hb dX5_nextEnd_44 (by decide) ?_
            exact ih x2_13 x3_14 _ _ (hP.sub [0, 1, 2] rfl) (hD.sub [0, 1, 2] (by decide) rfl) hS ls (lv_sub hl [2, 3, 1, 0] rfl) h
def wp_X5_nextEnd (v_taskOf : Nat → Int32) (v_endOf : Nat → Int32) (a1 : Int32) (post : Int32 → Prop) : Prop := (∃ n4 : Nat, lp_X5_nextEnd_4 v_taskOf v_endOf a1 n4 (-1) 0 (fun (x2_15 : Int32) => post x2_15))
set_option maxHeartbeats 4000000 in
set_option maxRecDepth 100000 in
theorem c_X5_nextEnd (l : Launch) (D : va_G) (cI cJ cZ cO : ClassId) (o : Nat) (o_begin : Nat) (o_worker : Nat) (o_taskOf : Nat) (o_endOf : Nat) (v_tasks : Int32) (v_begun : Int64) (v_done : Int64) (v_taskOf : Nat → Int32) (v_endOf : Nat → Int32) (a1 : Int32) (post : Int32 → Prop) (hw : wp_X5_nextEnd v_taskOf v_endOf a1 post) : gb_Ci D cI cJ cZ cO l yX5_nextEnd wsX5_nextEnd ({ frames := 0, cells := 0, slots := 0, locals := 0 }) [.ref o, .int a1] [(o, .inr (5, [.ref o_begin, .ref o_worker, .int v_tasks, .ref o_taskOf, .ref o_endOf, .long v_begun, .long v_done])), (o_taskOf, .inl (cI, 8, .inl v_taskOf)), (o_endOf, .inl (cI, 8, .inl v_endOf))] (fun (r : Int32) (_ : Unit) => post r ) (fun _ : Unit => [(o, .inr (5, [.ref o_begin, .ref o_worker, .int v_tasks, .ref o_taskOf, .ref o_endOf, .long v_begun, .long v_done])), (o_taskOf, .inl (cI, 8, .inl v_taskOf)), (o_endOf, .inl (cI, 8, .inl v_endOf))]) 0 0 := by
  refine gb_mi (cc := cX5_nextEnd) (maxL := 4) (ret := (some .int)) (by decide) rfl (Nat.le_of_ble_eq_true rfl) ?_
  · intro p e s m below meth c A C hP hD hS ls hl
    obtain ⟨hx, hb, hr, hml, hown, hts, hlocks, hnm, hK, hA⟩ := id C
    replace hown : s.vm.findClass RX5 = some m.cls := hown
    have h := hw
    unfold wp_X5_nextEnd at h
    replace hl : lv_has ls 4 [(0, .ref o), (1, .int a1)] := hl
    refine lv_iconst (v := (-1)) hx hb dX5_nextEnd_0 (by decide) ?_
    refine lv_istore_n (lv' := [(2, .int (-1)), (0, .ref o), (1, .int a1)]) hx hb dX5_nextEnd_1 rfl hl (by decide) rfl (fun ls hl => ?_)
    refine lv_iconst (v := 0) hx hb dX5_nextEnd_2 (by decide) ?_
    refine lv_istore_n (lv' := [(3, .int 0), (2, .int (-1)), (0, .ref o), (1, .int a1)]) hx hb dX5_nextEnd_3 rfl hl (by decide) rfl (fun ls hl => ?_)
    obtain ⟨n4, h⟩ := h
    refine ml_X5_nextEnd_4 o o_begin o_worker o_taskOf o_endOf v_tasks v_begun v_done v_taskOf v_endOf a1 a1 C post _ ?_ n4 (-1) 0 _ _ (hP.sub [0, 1, 2] rfl) (hD.sub [0, 1, 2] (by decide) rfl) hS ls (lv_sub hl [2, 3, 1, 0] rfl) h
    intro x2_15 H locs hP hD hS ls hl h
    refine lv_iload_n hx hb dX5_nextEnd_47 rfl (lv_at hl 0 rfl) ?_
    exact gb_reti C () (hP.sub [0, 1, 2] rfl) (hD.sub [0, 1, 2] (by decide) rfl) hS h dX5_nextEnd_48
/-! OrderKeeper$Schedule.handOut(LOrderKeeper$Net;[III)V -/
theorem in_X5_handOut_X2 : ∀ w ∈ wsX20, w ∈ wsX5_handOut := fun _ h => List.mem_cons_of_mem _ (List.mem_append_right _ h)
theorem in_X5_handOut_X5 : ∀ w ∈ wsX50, w ∈ wsX5_handOut := fun _ h => List.mem_cons_of_mem _ (List.mem_append_left _ (List.mem_append_right _ h))
theorem hdS_X5_handOut : yX5_handOut.cls ≠ "java/lang/invoke/MethodHandle" ∧ yX5_handOut.cls ≠ "java/lang/invoke/VarHandle" ∧ (parseMethodDescriptor yX5_handOut.desc).map (fun d => d.parameters.length) = some 4 := by decide +kernel
theorem hdV_X5_handOut : yX5_handOut.cls = RX5 ∧ yX5_handOut.cls ≠ "java/lang/invoke/MethodHandle" ∧ yX5_handOut.cls ≠ "java/lang/invoke/VarHandle" ∧ (parseMethodDescriptor yX5_handOut.desc).map (fun d => d.parameters.length) = some 4 := ⟨rfl, hdS_X5_handOut⟩
theorem cw_X5_handOut_60 {R : Room} {s : State} {args : Array Value} (hts : ∀ w ∈ wsX5_handOut, w.before args s = true) (hR : 0 + 1 ≤ R.frames ∧ 8 + (3 + 11) + 0 ≤ R.locals) : CallW R s args RX5 RX5 60 yX5_leastFree cX5_leastFree 3 (some .int) wsX5_leastFree ({ frames := 0, cells := 0, slots := 0, locals := 0 }) 0 0 1 := cwV 1 hts gX5_handOut_X5_leastFree rfl rfl rfl hdV_X5_leastFree hR
theorem cw_X5_handOut_63 {R : Room} {s : State} {args : Array Value} (hts : ∀ w ∈ wsX5_handOut, w.before args s = true) (hR : 1 + 1 ≤ R.frames ∧ 8 + (6 + 11) + 22 ≤ R.locals) : CallW R s args RX5 RX5 63 yX5_firstReady cX5_firstReady 6 (some .int) wsX5_firstReady ({ frames := 1, cells := 0, slots := 0, locals := 22 }) 0 0 2 := cwV 2 hts gX5_handOut_X5_firstReady rfl rfl rfl hdV_X5_firstReady hR
theorem cw_X5_handOut_70 {R : Room} {s : State} {args : Array Value} (hts : ∀ w ∈ wsX5_handOut, w.before args s = true) (hR : 1 + 1 ≤ R.frames ∧ 8 + (5 + 11) + 20 ≤ R.locals) : CallW R s args RX5 RX5 70 yX5_take cX5_take 5 none wsX5_take ({ frames := 1, cells := 0, slots := 0, locals := 20 }) 0 0 4 := cwV 4 hts gX5_handOut_X5_take rfl rfl rfl hdV_X5_take hR
def lp_X5_handOut_3 (v_tasks : Int32) (w1_weight : Nat → Int32) (w1_before : Nat → Int64) (w2 : Nat → Int32) (x3 : Int32) (x4 : Int32) (post : (Int64) → (Int64) → (Nat → Int32) → (Nat → Int32) → (Nat → Int32) → (Nat → Int32) → Prop) : Nat → (Int64) → (Int64) → (Nat → Int32) → (Nat → Int32) → (Nat → Int32) → (Nat → Int32) → (Int32) → ((Int64) → (Int64) → (Nat → Int32) → (Nat → Int32) → (Nat → Int32) → (Nat → Int32) → Prop) → Prop
  | 0, _, _, _, _, _, _, _, _ => False
  | n3 + 1, v_begun, v_done, v_begin, v_worker, v_taskOf, v_endOf, x5, kx => ((v_tasks ≤ x5 → kx v_begun v_done v_begin v_worker v_taskOf v_endOf) ∧ (¬ (v_tasks ≤ x5) → wp_X5_leastFree v_taskOf x3 (fun (r_2 : Int32) => wp_X5_firstReady v_tasks v_begun v_done w1_before w2 (fun (r_3 : Int32) => ((r_2 = (-1) → post v_begun v_done v_begin v_worker v_taskOf v_endOf) ∧ (¬ (r_2 = (-1)) → ((r_3 = (-1) → post v_begun v_done v_begin v_worker v_taskOf v_endOf) ∧ (¬ (r_3 = (-1)) → vp_in r_3 60 ∧ wp_X5_take v_begun v_done v_begin v_worker v_taskOf v_endOf r_3 r_2 x4 (w1_weight r_3.toNatClampNeg) (fun (v_begun_7 : Int64) (v_done_8 : Int64) (v_begin_9 : Nat → Int32) (v_worker_10 : Nat → Int32) (v_taskOf_11 : Nat → Int32) (v_endOf_12 : Nat → Int32) => ∀ x5_13 : Int32, x5_13 = x5 + 1 → lp_X5_handOut_3 v_tasks w1_weight w1_before w2 x3 x4 post n3 v_begun_7 v_done_8 v_begin_9 v_worker_10 v_taskOf_11 v_endOf_12 x5_13 kx)))))))))
set_option maxHeartbeats 4000000 in
set_option maxRecDepth 100000 in
theorem ml_X5_handOut_3 {D : va_G} {cI cJ cZ cO : ClassId} {p : Program} {l : Launch} {e : Env} {s : State} {m : MethodId} {below : List Frame} {meth : Method} {c : Code} {A : Nat → Prop} (o : Nat) (o_begin : Nat) (o_worker : Nat) (o_taskOf : Nat) (o_endOf : Nat) (q1 : Nat) (q1_weight : Nat) (q1_after : Nat) (q1_before : Nat) (q1_placeOf : Nat) (q1_taskAt : Nat) (q2 : Nat) (v_tasks : Int32) (w1_tasks : Int32) (w1_ties : Int32) (w1_weight : Nat → Int32) (w1_before : Nat → Int64) (w2 : Nat → Int32) (a3 : Int32) (a4 : Int32) (x3 : Int32) (x4 : Int32) (C : gb_At D cI cJ cZ cO p s m meth c ([.ref o, .ref q1, .ref q2, .int a3, .int a4] : List Value).toArray A yX5_handOut cX5_handOut none 8 wsX5_handOut) (post : (Int64) → (Int64) → (Nat → Int32) → (Nat → Int32) → (Nat → Int32) → (Nat → Int32) → Prop) (kx : ((Int64) → (Int64) → (Nat → Int32) → (Nat → Int32) → (Nat → Int32) → (Nat → Int32) → Prop)) (hkx : ∀ (v_begun : Int64) (v_done : Int64) (v_begin : Nat → Int32) (v_worker : Nat → Int32) (v_taskOf : Nat → Int32) (v_endOf : Nat → Int32) (H : Heap) (locs : List Loc), va_P D vwCl [(o, .inr (5, [.ref o_begin, .ref o_worker, .int v_tasks, .ref o_taskOf, .ref o_endOf, .long v_begun, .long v_done])), (o_begin, .inl (cI, 60, .inl v_begin)), (o_worker, .inl (cI, 60, .inl v_worker)), (o_taskOf, .inl (cI, 8, .inl v_taskOf)), (o_endOf, .inl (cI, 8, .inl v_endOf)), (q1, .inr (2, [.ref q1_weight, .ref q1_after, .ref q1_before, .ref q1_placeOf, .ref q1_taskAt, .int w1_tasks, .int w1_ties])), (q1_weight, .inl (cI, 60, .inl w1_weight)), (q1_before, .inl (cJ, 60, .inr (.inl w1_before))), (q2, .inl (cI, 60, .inl w2))] H → va_D A [(o, .inr (5, [.ref o_begin, .ref o_worker, .int v_tasks, .ref o_taskOf, .ref o_endOf, .long v_begun, .long v_done])), (o_begin, .inl (cI, 60, .inl v_begin)), (o_worker, .inl (cI, 60, .inl v_worker)), (o_taskOf, .inl (cI, 8, .inl v_taskOf)), (o_endOf, .inl (cI, 8, .inl v_endOf)), (q1, .inr (2, [.ref q1_weight, .ref q1_after, .ref q1_before, .ref q1_placeOf, .ref q1_taskAt, .int w1_tasks, .int w1_ties])), (q1_weight, .inl (cI, 60, .inl w1_weight)), (q1_before, .inl (cJ, 60, .inr (.inl w1_before))), (q2, .inl (cI, 60, .inl w2))] → va_S A s.heap H locs → ∀ ls : Array Slot, lv_has ls 8 [] → kx v_begun v_done v_begin v_worker v_taskOf v_endOf → W p l e ({ frames := 2, cells := 0, slots := 0, locals := 47 } : Room) s m ([.ref o, .ref q1, .ref q2, .int a3, .int a4] : List Value).toArray below meth c H locs 0 0 (MQ below (va_Qv (fun u : (Int64) × (Int64) × (Nat → Int32) × (Nat → Int32) × (Nat → Int32) × (Nat → Int32) => post u.1 u.2.1 u.2.2.1 u.2.2.2.1 u.2.2.2.2.1 u.2.2.2.2.2) (gb_B D (fun u : (Int64) × (Int64) × (Nat → Int32) × (Nat → Int32) × (Nat → Int32) × (Nat → Int32) => [(o, .inr (5, [.ref o_begin, .ref o_worker, .int v_tasks, .ref o_taskOf, .ref o_endOf, .long u.1, .long u.2.1])), (o_begin, .inl (cI, 60, .inl u.2.2.1)), (o_worker, .inl (cI, 60, .inl u.2.2.2.1)), (o_taskOf, .inl (cI, 8, .inl u.2.2.2.2.1)), (o_endOf, .inl (cI, 8, .inl u.2.2.2.2.2)), (q1, .inr (2, [.ref q1_weight, .ref q1_after, .ref q1_before, .ref q1_placeOf, .ref q1_taskAt, .int w1_tasks, .int w1_ties])), (q1_weight, .inl (cI, 60, .inl w1_weight)), (q1_before, .inl (cJ, 60, .inr (.inl w1_before))), (q2, .inl (cI, 60, .inl w2))]) A) A) ([.ref o, .ref q1, .ref q2, .int a3, .int a4] : List Value).toArray s 0 0 A) (F0 m 63 ls [])) :
    ∀ (n3 : Nat) (v_begun : Int64) (v_done : Int64) (v_begin : Nat → Int32) (v_worker : Nat → Int32) (v_taskOf : Nat → Int32) (v_endOf : Nat → Int32) (x5 : Int32) (H : Heap) (locs : List Loc), va_P D vwCl [(o, .inr (5, [.ref o_begin, .ref o_worker, .int v_tasks, .ref o_taskOf, .ref o_endOf, .long v_begun, .long v_done])), (o_begin, .inl (cI, 60, .inl v_begin)), (o_worker, .inl (cI, 60, .inl v_worker)), (o_taskOf, .inl (cI, 8, .inl v_taskOf)), (o_endOf, .inl (cI, 8, .inl v_endOf)), (q1, .inr (2, [.ref q1_weight, .ref q1_after, .ref q1_before, .ref q1_placeOf, .ref q1_taskAt, .int w1_tasks, .int w1_ties])), (q1_weight, .inl (cI, 60, .inl w1_weight)), (q1_before, .inl (cJ, 60, .inr (.inl w1_before))), (q2, .inl (cI, 60, .inl w2))] H → va_D A [(o, .inr (5, [.ref o_begin, .ref o_worker, .int v_tasks, .ref o_taskOf, .ref o_endOf, .long v_begun, .long v_done])), (o_begin, .inl (cI, 60, .inl v_begin)), (o_worker, .inl (cI, 60, .inl v_worker)), (o_taskOf, .inl (cI, 8, .inl v_taskOf)), (o_endOf, .inl (cI, 8, .inl v_endOf)), (q1, .inr (2, [.ref q1_weight, .ref q1_after, .ref q1_before, .ref q1_placeOf, .ref q1_taskAt, .int w1_tasks, .int w1_ties])), (q1_weight, .inl (cI, 60, .inl w1_weight)), (q1_before, .inl (cJ, 60, .inr (.inl w1_before))), (q2, .inl (cI, 60, .inl w2))] → va_S A s.heap H locs → ∀ ls : Array Slot, lv_has ls 8 [(0, .ref o), (1, .ref q1), (2, .ref q2), (3, .int x3), (4, .int x4), (5, .int x5)] → lp_X5_handOut_3 v_tasks w1_weight w1_before w2 x3 x4 post n3 v_begun v_done v_begin v_worker v_taskOf v_endOf x5 kx → W p l e ({ frames := 2, cells := 0, slots := 0, locals := 47 } : Room) s m ([.ref o, .ref q1, .ref q2, .int a3, .int a4] : List Value).toArray below meth c H locs 0 0 (MQ below (va_Qv (fun u : (Int64) × (Int64) × (Nat → Int32) × (Nat → Int32) × (Nat → Int32) × (Nat → Int32) => post u.1 u.2.1 u.2.2.1 u.2.2.2.1 u.2.2.2.2.1 u.2.2.2.2.2) (gb_B D (fun u : (Int64) × (Int64) × (Nat → Int32) × (Nat → Int32) × (Nat → Int32) × (Nat → Int32) => [(o, .inr (5, [.ref o_begin, .ref o_worker, .int v_tasks, .ref o_taskOf, .ref o_endOf, .long u.1, .long u.2.1])), (o_begin, .inl (cI, 60, .inl u.2.2.1)), (o_worker, .inl (cI, 60, .inl u.2.2.2.1)), (o_taskOf, .inl (cI, 8, .inl u.2.2.2.2.1)), (o_endOf, .inl (cI, 8, .inl u.2.2.2.2.2)), (q1, .inr (2, [.ref q1_weight, .ref q1_after, .ref q1_before, .ref q1_placeOf, .ref q1_taskAt, .int w1_tasks, .int w1_ties])), (q1_weight, .inl (cI, 60, .inl w1_weight)), (q1_before, .inl (cJ, 60, .inr (.inl w1_before))), (q2, .inl (cI, 60, .inl w2))]) A) A) ([.ref o, .ref q1, .ref q2, .int a3, .int a4] : List Value).toArray s 0 0 A) (F0 m 3 ls []) := by
  obtain ⟨hx, hb, hr, hml, hown, hts, hlocks, hnm, hK, hA⟩ := id C
  replace hown : s.vm.findClass RX5 = some m.cls := hown
  intro n3
  induction n3 with
  | zero => intro v_begun v_done v_begin v_worker v_taskOf v_endOf x5 H locs hP hD hS ls hl h; exact False.elim h
  | succ n3 ih =>
    intro v_begun v_done v_begin v_worker v_taskOf v_endOf x5 H locs hP hD hS ls hl h
    rw [lp_X5_handOut_3] at h
    refine lv_iload hx hb dX5_handOut_3 (lv_at hl 5 rfl) ?_
    refine lv_aload_n hx hb dX5_handOut_5 rfl (lv_at hl 0 rfl) ?_
    refine va_get (D := D) (ci := 5) (v := .int v_tasks) (C := RX5) (T := TX5) (N := 7) hx hb hts in_X5_handOut_X5 hown hK.1 hP 0 rfl rfl 2 (by decide) (hts (.fieldLink RX5 30 "OrderKeeper$Schedule" "tasks" "I") (List.mem_of_getElem? (i := 1) rfl)) (fun _ h9 => h9) rfl dX5_handOut_6 ?_
    refine lv_icmp_ge (tgt := 63) hx hb dX5_handOut_9 (by decide) (fun c1 => ?_) (fun c1 => ?_)
    · replace h := h.1 c1
      exact hkx v_begun v_done v_begin v_worker v_taskOf v_endOf _ _ (hP.sub [0, 1, 2, 3, 4, 5, 6, 7, 8] rfl) (hD.sub [0, 1, 2, 3, 4, 5, 6, 7, 8] (by decide) rfl) hS ls (lv_sub hl [] rfl) h
    · replace h := h.2 c1
      refine lv_aload_n hx hb dX5_handOut_12 rfl (lv_at hl 0 rfl) ?_
      refine lv_iload_n hx hb dX5_handOut_13 rfl (lv_at hl 3 rfl) ?_
      refine gb_ki (wc := [(o, .inr (5, [.ref o_begin, .ref o_worker, .int v_tasks, .ref o_taskOf, .ref o_endOf, .long v_begun, .long v_done])), (o_taskOf, .inl (cI, 8, .inl v_taskOf))]) (wr := [(o_begin, .inl (cI, 60, .inl v_begin)), (o_worker, .inl (cI, 60, .inl v_worker)), (o_endOf, .inl (cI, 8, .inl v_endOf)), (q1, .inr (2, [.ref q1_weight, .ref q1_after, .ref q1_before, .ref q1_placeOf, .ref q1_taskAt, .int w1_tasks, .int w1_ties])), (q1_weight, .inl (cI, 60, .inl w1_weight)), (q1_before, .inl (cJ, 60, .inr (.inl w1_before))), (q2, .inl (cI, 60, .inl w2))]) C hP hD hS [0, 3] [1, 2, 4, 5, 6, 7, 8] rfl rfl (by decide) (gb_rV (As := [.int x3]) (rest := []) C ((c_X5_leastFree l D cI cJ cZ cO o o_begin o_worker o_taskOf o_endOf v_tasks v_begun v_done v_taskOf x3 _ h) _) rfl (cw_X5_handOut_60 hts ⟨Nat.le_of_ble_eq_true rfl, Nat.le_of_ble_eq_true rfl⟩) (ci := 5) (q0 := 0) rfl rfl rfl rfl hl.1 rfl (Nat.le_of_ble_eq_true rfl) dX5_handOut_14 ⟨Nat.zero_le _, Nat.zero_le _⟩) ?_
      rintro r_2 _ H locs h hP hD hS
      try dsimp only at h
      replace hP : va_P D vwCl [(o_begin, .inl (cI, 60, .inl v_begin)), (o_worker, .inl (cI, 60, .inl v_worker)), (o_endOf, .inl (cI, 8, .inl v_endOf)), (q1, .inr (2, [.ref q1_weight, .ref q1_after, .ref q1_before, .ref q1_placeOf, .ref q1_taskAt, .int w1_tasks, .int w1_ties])), (q1_weight, .inl (cI, 60, .inl w1_weight)), (q1_before, .inl (cJ, 60, .inr (.inl w1_before))), (q2, .inl (cI, 60, .inl w2)), (o, .inr (5, [.ref o_begin, .ref o_worker, .int v_tasks, .ref o_taskOf, .ref o_endOf, .long v_begun, .long v_done])), (o_taskOf, .inl (cI, 8, .inl v_taskOf))] H := hP
      replace hD : va_D A [(o_begin, .inl (cI, 60, .inl v_begin)), (o_worker, .inl (cI, 60, .inl v_worker)), (o_endOf, .inl (cI, 8, .inl v_endOf)), (q1, .inr (2, [.ref q1_weight, .ref q1_after, .ref q1_before, .ref q1_placeOf, .ref q1_taskAt, .int w1_tasks, .int w1_ties])), (q1_weight, .inl (cI, 60, .inl w1_weight)), (q1_before, .inl (cJ, 60, .inr (.inl w1_before))), (q2, .inl (cI, 60, .inl w2)), (o, .inr (5, [.ref o_begin, .ref o_worker, .int v_tasks, .ref o_taskOf, .ref o_endOf, .long v_begun, .long v_done])), (o_taskOf, .inl (cI, 8, .inl v_taskOf))] := hD
      refine lv_istore (lv' := [(6, .int r_2), (0, .ref o), (1, .ref q1), (2, .ref q2), (3, .int x3), (4, .int x4), (5, .int x5)]) hx hb dX5_handOut_17 hl (by decide) rfl (fun ls hl => ?_)
      refine lv_aload_n hx hb dX5_handOut_19 rfl (lv_at hl 1 rfl) ?_
      refine lv_aload_n hx hb dX5_handOut_20 rfl (lv_at hl 2 rfl) ?_
      refine lv_aload_n hx hb dX5_handOut_21 rfl (lv_at hl 3 rfl) ?_
      refine gb_ki (wc := [(o, .inr (5, [.ref o_begin, .ref o_worker, .int v_tasks, .ref o_taskOf, .ref o_endOf, .long v_begun, .long v_done])), (q1, .inr (2, [.ref q1_weight, .ref q1_after, .ref q1_before, .ref q1_placeOf, .ref q1_taskAt, .int w1_tasks, .int w1_ties])), (q1_before, .inl (cJ, 60, .inr (.inl w1_before))), (q2, .inl (cI, 60, .inl w2))]) (wr := [(o_begin, .inl (cI, 60, .inl v_begin)), (o_worker, .inl (cI, 60, .inl v_worker)), (o_endOf, .inl (cI, 8, .inl v_endOf)), (q1_weight, .inl (cI, 60, .inl w1_weight)), (o_taskOf, .inl (cI, 8, .inl v_taskOf))]) C hP hD hS [7, 3, 5, 6] [0, 1, 2, 4, 8] rfl rfl (by decide) (gb_rV (As := [.ref q1, .ref q2]) (rest := []) C ((c_X5_firstReady l D cI cJ cZ cO o o_begin o_worker o_taskOf o_endOf q1 q1_weight q1_after q1_before q1_placeOf q1_taskAt q2 v_tasks v_begun v_done w1_tasks w1_ties w1_before w2 _ h) _) rfl (cw_X5_handOut_63 hts ⟨Nat.le_of_ble_eq_true rfl, Nat.le_of_ble_eq_true rfl⟩) (ci := 5) (q0 := 0) rfl rfl rfl rfl hl.1 rfl (Nat.le_of_ble_eq_true rfl) dX5_handOut_22 ⟨Nat.zero_le _, Nat.zero_le _⟩) ?_
      rintro r_3 _ H locs h hP hD hS
      try dsimp only at h
      replace hP : va_P D vwCl [(o_begin, .inl (cI, 60, .inl v_begin)), (o_worker, .inl (cI, 60, .inl v_worker)), (o_endOf, .inl (cI, 8, .inl v_endOf)), (q1_weight, .inl (cI, 60, .inl w1_weight)), (o_taskOf, .inl (cI, 8, .inl v_taskOf)), (o, .inr (5, [.ref o_begin, .ref o_worker, .int v_tasks, .ref o_taskOf, .ref o_endOf, .long v_begun, .long v_done])), (q1, .inr (2, [.ref q1_weight, .ref q1_after, .ref q1_before, .ref q1_placeOf, .ref q1_taskAt, .int w1_tasks, .int w1_ties])), (q1_before, .inl (cJ, 60, .inr (.inl w1_before))), (q2, .inl (cI, 60, .inl w2))] H := hP
      replace hD : va_D A [(o_begin, .inl (cI, 60, .inl v_begin)), (o_worker, .inl (cI, 60, .inl v_worker)), (o_endOf, .inl (cI, 8, .inl v_endOf)), (q1_weight, .inl (cI, 60, .inl w1_weight)), (o_taskOf, .inl (cI, 8, .inl v_taskOf)), (o, .inr (5, [.ref o_begin, .ref o_worker, .int v_tasks, .ref o_taskOf, .ref o_endOf, .long v_begun, .long v_done])), (q1, .inr (2, [.ref q1_weight, .ref q1_after, .ref q1_before, .ref q1_placeOf, .ref q1_taskAt, .int w1_tasks, .int w1_ties])), (q1_before, .inl (cJ, 60, .inr (.inl w1_before))), (q2, .inl (cI, 60, .inl w2))] := hD
      refine lv_istore (lv' := [(7, .int r_3), (6, .int r_2), (0, .ref o), (1, .ref q1), (2, .ref q2), (3, .int x3), (4, .int x4), (5, .int x5)]) hx hb dX5_handOut_25 hl (by decide) rfl (fun ls hl => ?_)
      refine lv_iload hx hb dX5_handOut_27 (lv_at hl 1 rfl) ?_
      refine lv_iconst (v := (-1)) hx hb dX5_handOut_29 (by decide) ?_
      refine lv_icmp_eq (tgt := 39) hx hb dX5_handOut_30 (by decide) (fun c4 => ?_) (fun c4 => ?_)
      · replace h := h.1 c4
        exact gb_retv C (v_begun, v_done, v_begin, v_worker, v_taskOf, v_endOf) (hP.sub [5, 0, 1, 4, 2, 6, 3, 7, 8] rfl) (hD.sub [5, 0, 1, 4, 2, 6, 3, 7, 8] (by decide) rfl) hS h dX5_handOut_39
      · replace h := h.2 c4
        refine lv_iload hx hb dX5_handOut_33 (lv_at hl 0 rfl) ?_
        refine lv_iconst (v := (-1)) hx hb dX5_handOut_35 (by decide) ?_
        refine lv_icmp_ne (tgt := 40) hx hb dX5_handOut_36 (by decide) (fun c5 => ?_) (fun c5 => ?_)
        · replace h := h.2 c5
          refine lv_aload_n hx hb dX5_handOut_40 rfl (lv_at hl 2 rfl) ?_
          refine lv_iload hx hb dX5_handOut_41 (lv_at hl 0 rfl) ?_
          refine lv_iload hx hb dX5_handOut_43 (lv_at hl 1 rfl) ?_
          refine lv_iload hx hb dX5_handOut_45 (lv_at hl 6 rfl) ?_
          refine lv_aload_n hx hb dX5_handOut_47 rfl (lv_at hl 3 rfl) ?_
          refine va_get (D := D) (ci := 2) (v := .ref q1_weight) (C := RX2) (T := TX2) (N := 7) hx hb hts in_X5_handOut_X2 hown hK.1 hP 6 rfl rfl 0 (by decide) (hts (.fieldLink RX5 67 "OrderKeeper$Net" "weight" "[I") (List.mem_of_getElem? (i := 2) rfl)) (fun _ h9 => h9) rfl dX5_handOut_48 ?_
          refine lv_iload hx hb dX5_handOut_51 (lv_at hl 0 rfl) ?_
          obtain ⟨hi6, h⟩ := h
          refine va_iald hx hb hK.1 hP 3 0 rfl rfl hi6 dX5_handOut_53 ?_
          refine gb_kv (wc := [(o, .inr (5, [.ref o_begin, .ref o_worker, .int v_tasks, .ref o_taskOf, .ref o_endOf, .long v_begun, .long v_done])), (o_begin, .inl (cI, 60, .inl v_begin)), (o_worker, .inl (cI, 60, .inl v_worker)), (o_taskOf, .inl (cI, 8, .inl v_taskOf)), (o_endOf, .inl (cI, 8, .inl v_endOf))]) (wr := [(q1_weight, .inl (cI, 60, .inl w1_weight)), (q1, .inr (2, [.ref q1_weight, .ref q1_after, .ref q1_before, .ref q1_placeOf, .ref q1_taskAt, .int w1_tasks, .int w1_ties])), (q1_before, .inl (cJ, 60, .inr (.inl w1_before))), (q2, .inl (cI, 60, .inl w2))]) C hP hD hS [5, 0, 1, 4, 2] [3, 6, 7, 8] rfl rfl (by decide) (gb_rV (As := [.int r_3, .int r_2, .int x4, .int (w1_weight r_3.toNatClampNeg)]) (rest := []) C ((c_X5_take l D cI cJ cZ cO o o_begin o_worker o_taskOf o_endOf v_tasks v_begun v_done v_begin v_worker v_taskOf v_endOf r_3 r_2 x4 (w1_weight r_3.toNatClampNeg) _ h) _) rfl (cw_X5_handOut_70 hts ⟨Nat.le_of_ble_eq_true rfl, Nat.le_of_ble_eq_true rfl⟩) (ci := 5) (q0 := 0) rfl rfl rfl rfl hl.1 rfl (Nat.le_of_ble_eq_true rfl) dX5_handOut_54 ⟨Nat.zero_le _, Nat.zero_le _⟩) ?_
          rintro ⟨v_begun_7, v_done_8, v_begin_9, v_worker_10, v_taskOf_11, v_endOf_12⟩ H locs h hP hD hS
          try dsimp only at h
          replace hP : va_P D vwCl [(q1_weight, .inl (cI, 60, .inl w1_weight)), (q1, .inr (2, [.ref q1_weight, .ref q1_after, .ref q1_before, .ref q1_placeOf, .ref q1_taskAt, .int w1_tasks, .int w1_ties])), (q1_before, .inl (cJ, 60, .inr (.inl w1_before))), (q2, .inl (cI, 60, .inl w2)), (o, .inr (5, [.ref o_begin, .ref o_worker, .int v_tasks, .ref o_taskOf, .ref o_endOf, .long v_begun_7, .long v_done_8])), (o_begin, .inl (cI, 60, .inl v_begin_9)), (o_worker, .inl (cI, 60, .inl v_worker_10)), (o_taskOf, .inl (cI, 8, .inl v_taskOf_11)), (o_endOf, .inl (cI, 8, .inl v_endOf_12))] H := hP
          replace hD : va_D A [(q1_weight, .inl (cI, 60, .inl w1_weight)), (q1, .inr (2, [.ref q1_weight, .ref q1_after, .ref q1_before, .ref q1_placeOf, .ref q1_taskAt, .int w1_tasks, .int w1_ties])), (q1_before, .inl (cJ, 60, .inr (.inl w1_before))), (q2, .inl (cI, 60, .inl w2)), (o, .inr (5, [.ref o_begin, .ref o_worker, .int v_tasks, .ref o_taskOf, .ref o_endOf, .long v_begun_7, .long v_done_8])), (o_begin, .inl (cI, 60, .inl v_begin_9)), (o_worker, .inl (cI, 60, .inl v_worker_10)), (o_taskOf, .inl (cI, 8, .inl v_taskOf_11)), (o_endOf, .inl (cI, 8, .inl v_endOf_12))] := hD
          obtain ⟨x5_13, ex5_13⟩ : ∃ z : Int32, z = x5 + 1 := ⟨_, rfl⟩
          refine lv_iinc (v := x5_13) (lv' := [(5, .int x5_13), (7, .int r_3), (6, .int r_2), (0, .ref o), (1, .ref q1), (2, .ref q2), (3, .int x3), (4, .int x4)]) hx hb dX5_handOut_57 hl (k := 7) rfl (by rw [ex5_13]; rfl) (by decide) rfl (fun ls hl => ?_)
          replace h := h x5_13 ex5_13
          refine lv_goto (tgt := 3) hx hb dX5_handOut_60 (by decide) ?_
          exact ih v_begun_7 v_done_8 v_begin_9 v_worker_10 v_taskOf_11 v_endOf_12 x5_13 _ _ (hP.sub [4, 5, 6, 7, 8, 1, 0, 2, 3] rfl) (hD.sub [4, 5, 6, 7, 8, 1, 0, 2, 3] (by decide) rfl) hS ls (lv_sub hl [3, 4, 5, 6, 7, 0] rfl) h
        · replace h := h.1 c5
          exact gb_retv C (v_begun, v_done, v_begin, v_worker, v_taskOf, v_endOf) (hP.sub [5, 0, 1, 4, 2, 6, 3, 7, 8] rfl) (hD.sub [5, 0, 1, 4, 2, 6, 3, 7, 8] (by decide) rfl) hS h dX5_handOut_39
def wp_X5_handOut (v_tasks : Int32) (v_begun : Int64) (v_done : Int64) (v_begin : Nat → Int32) (v_worker : Nat → Int32) (v_taskOf : Nat → Int32) (v_endOf : Nat → Int32) (w1_weight : Nat → Int32) (w1_before : Nat → Int64) (w2 : Nat → Int32) (a3 : Int32) (a4 : Int32) (post : (Int64) → (Int64) → (Nat → Int32) → (Nat → Int32) → (Nat → Int32) → (Nat → Int32) → Prop) : Prop := (∃ n3 : Nat, lp_X5_handOut_3 v_tasks w1_weight w1_before w2 a3 a4 post n3 v_begun v_done v_begin v_worker v_taskOf v_endOf 0 (fun (v_begun_14 : Int64) (v_done_15 : Int64) (v_begin_16 : Nat → Int32) (v_worker_17 : Nat → Int32) (v_taskOf_18 : Nat → Int32) (v_endOf_19 : Nat → Int32) => post v_begun_14 v_done_15 v_begin_16 v_worker_17 v_taskOf_18 v_endOf_19))
set_option maxHeartbeats 4000000 in
set_option maxRecDepth 100000 in
theorem c_X5_handOut (l : Launch) (D : va_G) (cI cJ cZ cO : ClassId) (o : Nat) (o_begin : Nat) (o_worker : Nat) (o_taskOf : Nat) (o_endOf : Nat) (q1 : Nat) (q1_weight : Nat) (q1_after : Nat) (q1_before : Nat) (q1_placeOf : Nat) (q1_taskAt : Nat) (q2 : Nat) (v_tasks : Int32) (v_begun : Int64) (v_done : Int64) (v_begin : Nat → Int32) (v_worker : Nat → Int32) (v_taskOf : Nat → Int32) (v_endOf : Nat → Int32) (w1_tasks : Int32) (w1_ties : Int32) (w1_weight : Nat → Int32) (w1_before : Nat → Int64) (w2 : Nat → Int32) (a3 : Int32) (a4 : Int32) (post : (Int64) → (Int64) → (Nat → Int32) → (Nat → Int32) → (Nat → Int32) → (Nat → Int32) → Prop) (hw : wp_X5_handOut v_tasks v_begun v_done v_begin v_worker v_taskOf v_endOf w1_weight w1_before w2 a3 a4 post) : gb_Cv D cI cJ cZ cO l yX5_handOut wsX5_handOut ({ frames := 2, cells := 0, slots := 0, locals := 47 }) [.ref o, .ref q1, .ref q2, .int a3, .int a4] [(o, .inr (5, [.ref o_begin, .ref o_worker, .int v_tasks, .ref o_taskOf, .ref o_endOf, .long v_begun, .long v_done])), (o_begin, .inl (cI, 60, .inl v_begin)), (o_worker, .inl (cI, 60, .inl v_worker)), (o_taskOf, .inl (cI, 8, .inl v_taskOf)), (o_endOf, .inl (cI, 8, .inl v_endOf)), (q1, .inr (2, [.ref q1_weight, .ref q1_after, .ref q1_before, .ref q1_placeOf, .ref q1_taskAt, .int w1_tasks, .int w1_ties])), (q1_weight, .inl (cI, 60, .inl w1_weight)), (q1_before, .inl (cJ, 60, .inr (.inl w1_before))), (q2, .inl (cI, 60, .inl w2))] (fun u : (Int64) × (Int64) × (Nat → Int32) × (Nat → Int32) × (Nat → Int32) × (Nat → Int32) => post u.1 u.2.1 u.2.2.1 u.2.2.2.1 u.2.2.2.2.1 u.2.2.2.2.2) (fun u : (Int64) × (Int64) × (Nat → Int32) × (Nat → Int32) × (Nat → Int32) × (Nat → Int32) => [(o, .inr (5, [.ref o_begin, .ref o_worker, .int v_tasks, .ref o_taskOf, .ref o_endOf, .long u.1, .long u.2.1])), (o_begin, .inl (cI, 60, .inl u.2.2.1)), (o_worker, .inl (cI, 60, .inl u.2.2.2.1)), (o_taskOf, .inl (cI, 8, .inl u.2.2.2.2.1)), (o_endOf, .inl (cI, 8, .inl u.2.2.2.2.2)), (q1, .inr (2, [.ref q1_weight, .ref q1_after, .ref q1_before, .ref q1_placeOf, .ref q1_taskAt, .int w1_tasks, .int w1_ties])), (q1_weight, .inl (cI, 60, .inl w1_weight)), (q1_before, .inl (cJ, 60, .inr (.inl w1_before))), (q2, .inl (cI, 60, .inl w2))]) 0 0 := by
  refine gb_mv (cc := cX5_handOut) (maxL := 8) (ret := none) (by decide) rfl (Nat.le_of_ble_eq_true rfl) ?_
  · intro p e s m below meth c A C hP hD hS ls hl
    obtain ⟨hx, hb, hr, hml, hown, hts, hlocks, hnm, hK, hA⟩ := id C
    replace hown : s.vm.findClass RX5 = some m.cls := hown
    have h := hw
    unfold wp_X5_handOut at h
    replace hl : lv_has ls 8 [(0, .ref o), (1, .ref q1), (2, .ref q2), (3, .int a3), (4, .int a4)] := hl
    refine lv_iconst (v := 0) hx hb dX5_handOut_0 (by decide) ?_
    refine lv_istore (lv' := [(5, .int 0), (0, .ref o), (1, .ref q1), (2, .ref q2), (3, .int a3), (4, .int a4)]) hx hb dX5_handOut_1 hl (by decide) rfl (fun ls hl => ?_)
    obtain ⟨n3, h⟩ := h
    refine ml_X5_handOut_3 o o_begin o_worker o_taskOf o_endOf q1 q1_weight q1_after q1_before q1_placeOf q1_taskAt q2 v_tasks w1_tasks w1_ties w1_weight w1_before w2 a3 a4 a3 a4 C post _ ?_ n3 v_begun v_done v_begin v_worker v_taskOf v_endOf 0 _ _ (hP.sub [0, 1, 2, 3, 4, 5, 6, 7, 8] rfl) (hD.sub [0, 1, 2, 3, 4, 5, 6, 7, 8] (by decide) rfl) hS ls (lv_sub hl [1, 2, 3, 4, 5, 0] rfl) h
    intro v_begun_14 v_done_15 v_begin_16 v_worker_17 v_taskOf_18 v_endOf_19 H locs hP hD hS ls hl h
    exact gb_retv C (v_begun_14, v_done_15, v_begin_16, v_worker_17, v_taskOf_18, v_endOf_19) (hP.sub [0, 1, 2, 3, 4, 5, 6, 7, 8] rfl) (hD.sub [0, 1, 2, 3, 4, 5, 6, 7, 8] (by decide) rfl) hS h dX5_handOut_63
/-! OrderKeeper$Schedule.make(LOrderKeeper$Net;[II)I -/
theorem in_X5_make_X2 : ∀ w ∈ wsX20, w ∈ wsX5_make := fun _ h => List.mem_cons_of_mem _ (List.mem_append_left _ (List.mem_append_right _ h))
theorem in_X5_make_X5 : ∀ w ∈ wsX50, w ∈ wsX5_make := fun _ h => List.mem_cons_of_mem _ (List.mem_append_right _ h)
theorem hdS_X5_make : yX5_make.cls ≠ "java/lang/invoke/MethodHandle" ∧ yX5_make.cls ≠ "java/lang/invoke/VarHandle" ∧ (parseMethodDescriptor yX5_make.desc).map (fun d => d.parameters.length) = some 3 := by decide +kernel
theorem hdV_X5_make : yX5_make.cls = RX5 ∧ yX5_make.cls ≠ "java/lang/invoke/MethodHandle" ∧ yX5_make.cls ≠ "java/lang/invoke/VarHandle" ∧ (parseMethodDescriptor yX5_make.desc).map (fun d => d.parameters.length) = some 3 := ⟨rfl, hdS_X5_make⟩
theorem cw_X5_make_38 {R : Room} {s : State} {args : Array Value} (hts : ∀ w ∈ wsX5_make, w.before args s = true) (hR : 0 + 1 ≤ R.frames ∧ 8 + (4 + 11) + 0 ≤ R.locals) : CallB R s args RX5 38 yJ7_fill_53178 cJ7_fill_53178 4 none wsJ7_fill_53178 ({ frames := 0, cells := 0, slots := 0, locals := 0 }) 0 0 2 ∧ (Cond.static yJ7_fill_53178).before args s = true := va_cwS 2 hts gX5_make_J7_fill_53178 rfl rfl rfl hdS_J7_fill_53178 hR
theorem cw_X5_make_44 {R : Room} {s : State} {args : Array Value} (hts : ∀ w ∈ wsX5_make, w.before args s = true) (hR : 1 + 1 ≤ R.frames ∧ 8 + (4 + 11) + 20 ≤ R.locals) : CallW R s args RX5 RX5 44 yX5_endTasks cX5_endTasks 4 none wsX5_endTasks ({ frames := 1, cells := 0, slots := 0, locals := 20 }) 0 0 2 := cwV 2 hts gX5_make_X5_endTasks rfl rfl rfl hdV_X5_endTasks hR
theorem cw_X5_make_48 {R : Room} {s : State} {args : Array Value} (hts : ∀ w ∈ wsX5_make, w.before args s = true) (hR : 2 + 1 ≤ R.frames ∧ 8 + (8 + 11) + 47 ≤ R.locals) : CallW R s args RX5 RX5 48 yX5_handOut cX5_handOut 8 none wsX5_handOut ({ frames := 2, cells := 0, slots := 0, locals := 47 }) 0 0 4 := cwV 4 hts gX5_make_X5_handOut rfl rfl rfl hdV_X5_handOut hR
theorem cw_X5_make_52 {R : Room} {s : State} {args : Array Value} (hts : ∀ w ∈ wsX5_make, w.before args s = true) (hR : 0 + 1 ≤ R.frames ∧ 8 + (4 + 11) + 0 ≤ R.locals) : CallW R s args RX5 RX5 52 yX5_nextEnd cX5_nextEnd 4 (some .int) wsX5_nextEnd ({ frames := 0, cells := 0, slots := 0, locals := 0 }) 0 0 1 := cwV 1 hts gX5_make_X5_nextEnd rfl rfl rfl hdV_X5_nextEnd hR
def lp_X5_make_32 (v_tasks : Int32) (w1_weight : Nat → Int32) (w1_before : Nat → Int64) (w2 : Nat → Int32) (x3 : Int32) : Nat → (Int64) → (Int64) → (Nat → Int32) → (Nat → Int32) → (Nat → Int32) → (Nat → Int32) → (Int32) → (Int32) → ((Int64) → (Int64) → (Nat → Int32) → (Nat → Int32) → (Nat → Int32) → (Nat → Int32) → (Int32) → Prop) → Prop
  | 0, _, _, _, _, _, _, _, _, _ => False
  | n32 + 1, v_begun, v_done, v_begin, v_worker, v_taskOf, v_endOf, x4, x5, kx => ((v_tasks < x5 → kx v_begun v_done v_begin v_worker v_taskOf v_endOf x4) ∧ (¬ (v_tasks < x5) → wp_X5_endTasks v_done v_taskOf v_endOf x4 x3 (fun (v_done_3 : Int64) (v_taskOf_4 : Nat → Int32) => wp_X5_handOut v_tasks v_begun v_done_3 v_begin v_worker v_taskOf_4 v_endOf w1_weight w1_before w2 x3 x4 (fun (v_begun_5 : Int64) (v_done_6 : Int64) (v_begin_7 : Nat → Int32) (v_worker_8 : Nat → Int32) (v_taskOf_9 : Nat → Int32) (v_endOf_10 : Nat → Int32) => wp_X5_nextEnd v_taskOf_9 v_endOf_10 x3 (fun (r_11 : Int32) => ((r_11 = (-1) → kx v_begun_5 v_done_6 v_begin_7 v_worker_8 v_taskOf_9 v_endOf_10 x4) ∧ (¬ (r_11 = (-1)) → ∀ x5_13 : Int32, x5_13 = x5 + 1 → lp_X5_make_32 v_tasks w1_weight w1_before w2 x3 n32 v_begun_5 v_done_6 v_begin_7 v_worker_8 v_taskOf_9 v_endOf_10 r_11 x5_13 kx)))))))
set_option maxHeartbeats 4000000 in
set_option maxRecDepth 100000 in
theorem ml_X5_make_32 {D : va_G} {cI cJ cZ cO : ClassId} {p : Program} {l : Launch} {e : Env} {s : State} {m : MethodId} {below : List Frame} {meth : Method} {c : Code} {A : Nat → Prop} (o : Nat) (o_begin : Nat) (o_worker : Nat) (o_taskOf : Nat) (o_endOf : Nat) (q1 : Nat) (q1_weight : Nat) (q1_after : Nat) (q1_before : Nat) (q1_placeOf : Nat) (q1_taskAt : Nat) (q2 : Nat) (v_tasks : Int32) (w1_tasks : Int32) (w1_ties : Int32) (w1_weight : Nat → Int32) (w1_before : Nat → Int64) (w2 : Nat → Int32) (a3 : Int32) (x3 : Int32) (C : gb_At D cI cJ cZ cO p s m meth c ([.ref o, .ref q1, .ref q2, .int a3] : List Value).toArray A yX5_make cX5_make (some .int) 7 wsX5_make) (post : Int32 → (Int32) → (Int64) → (Int64) → (Nat → Int32) → (Nat → Int32) → (Nat → Int32) → (Nat → Int32) → Prop) (kx : ((Int64) → (Int64) → (Nat → Int32) → (Nat → Int32) → (Nat → Int32) → (Nat → Int32) → (Int32) → Prop)) (hkx : ∀ (v_begun : Int64) (v_done : Int64) (v_begin : Nat → Int32) (v_worker : Nat → Int32) (v_taskOf : Nat → Int32) (v_endOf : Nat → Int32) (x4 : Int32) (H : Heap) (locs : List Loc), va_P D vwCl [(o, .inr (5, [.ref o_begin, .ref o_worker, .int v_tasks, .ref o_taskOf, .ref o_endOf, .long v_begun, .long v_done])), (o_begin, .inl (cI, 60, .inl v_begin)), (o_worker, .inl (cI, 60, .inl v_worker)), (o_taskOf, .inl (cI, 8, .inl v_taskOf)), (o_endOf, .inl (cI, 8, .inl v_endOf)), (q1, .inr (2, [.ref q1_weight, .ref q1_after, .ref q1_before, .ref q1_placeOf, .ref q1_taskAt, .int w1_tasks, .int w1_ties])), (q1_weight, .inl (cI, 60, .inl w1_weight)), (q1_before, .inl (cJ, 60, .inr (.inl w1_before))), (q2, .inl (cI, 60, .inl w2))] H → va_D A [(o, .inr (5, [.ref o_begin, .ref o_worker, .int v_tasks, .ref o_taskOf, .ref o_endOf, .long v_begun, .long v_done])), (o_begin, .inl (cI, 60, .inl v_begin)), (o_worker, .inl (cI, 60, .inl v_worker)), (o_taskOf, .inl (cI, 8, .inl v_taskOf)), (o_endOf, .inl (cI, 8, .inl v_endOf)), (q1, .inr (2, [.ref q1_weight, .ref q1_after, .ref q1_before, .ref q1_placeOf, .ref q1_taskAt, .int w1_tasks, .int w1_ties])), (q1_weight, .inl (cI, 60, .inl w1_weight)), (q1_before, .inl (cJ, 60, .inr (.inl w1_before))), (q2, .inl (cI, 60, .inl w2))] → va_S A s.heap H locs → ∀ ls : Array Slot, lv_has ls 7 [(4, .int x4)] → kx v_begun v_done v_begin v_worker v_taskOf v_endOf x4 → W p l e ({ frames := 3, cells := 0, slots := 0, locals := 74 } : Room) s m ([.ref o, .ref q1, .ref q2, .int a3] : List Value).toArray below meth c H locs 0 0 (MQ below (va_Qi (fun (r : Int32) (u : (Int32) × (Int64) × (Int64) × (Nat → Int32) × (Nat → Int32) × (Nat → Int32) × (Nat → Int32)) => post r u.1 u.2.1 u.2.2.1 u.2.2.2.1 u.2.2.2.2.1 u.2.2.2.2.2.1 u.2.2.2.2.2.2) (gb_B D (fun u : (Int32) × (Int64) × (Int64) × (Nat → Int32) × (Nat → Int32) × (Nat → Int32) × (Nat → Int32) => [(o, .inr (5, [.ref o_begin, .ref o_worker, .int u.1, .ref o_taskOf, .ref o_endOf, .long u.2.1, .long u.2.2.1])), (o_begin, .inl (cI, 60, .inl u.2.2.2.1)), (o_worker, .inl (cI, 60, .inl u.2.2.2.2.1)), (o_taskOf, .inl (cI, 8, .inl u.2.2.2.2.2.1)), (o_endOf, .inl (cI, 8, .inl u.2.2.2.2.2.2)), (q1, .inr (2, [.ref q1_weight, .ref q1_after, .ref q1_before, .ref q1_placeOf, .ref q1_taskAt, .int w1_tasks, .int w1_ties])), (q1_weight, .inl (cI, 60, .inl w1_weight)), (q1_before, .inl (cJ, 60, .inr (.inl w1_before))), (q2, .inl (cI, 60, .inl w2))]) A) A) ([.ref o, .ref q1, .ref q2, .int a3] : List Value).toArray s 0 0 A) (F0 m 83 ls [])) :
    ∀ (n32 : Nat) (v_begun : Int64) (v_done : Int64) (v_begin : Nat → Int32) (v_worker : Nat → Int32) (v_taskOf : Nat → Int32) (v_endOf : Nat → Int32) (x4 : Int32) (x5 : Int32) (H : Heap) (locs : List Loc), va_P D vwCl [(o, .inr (5, [.ref o_begin, .ref o_worker, .int v_tasks, .ref o_taskOf, .ref o_endOf, .long v_begun, .long v_done])), (o_begin, .inl (cI, 60, .inl v_begin)), (o_worker, .inl (cI, 60, .inl v_worker)), (o_taskOf, .inl (cI, 8, .inl v_taskOf)), (o_endOf, .inl (cI, 8, .inl v_endOf)), (q1, .inr (2, [.ref q1_weight, .ref q1_after, .ref q1_before, .ref q1_placeOf, .ref q1_taskAt, .int w1_tasks, .int w1_ties])), (q1_weight, .inl (cI, 60, .inl w1_weight)), (q1_before, .inl (cJ, 60, .inr (.inl w1_before))), (q2, .inl (cI, 60, .inl w2))] H → va_D A [(o, .inr (5, [.ref o_begin, .ref o_worker, .int v_tasks, .ref o_taskOf, .ref o_endOf, .long v_begun, .long v_done])), (o_begin, .inl (cI, 60, .inl v_begin)), (o_worker, .inl (cI, 60, .inl v_worker)), (o_taskOf, .inl (cI, 8, .inl v_taskOf)), (o_endOf, .inl (cI, 8, .inl v_endOf)), (q1, .inr (2, [.ref q1_weight, .ref q1_after, .ref q1_before, .ref q1_placeOf, .ref q1_taskAt, .int w1_tasks, .int w1_ties])), (q1_weight, .inl (cI, 60, .inl w1_weight)), (q1_before, .inl (cJ, 60, .inr (.inl w1_before))), (q2, .inl (cI, 60, .inl w2))] → va_S A s.heap H locs → ∀ ls : Array Slot, lv_has ls 7 [(0, .ref o), (1, .ref q1), (2, .ref q2), (3, .int x3), (4, .int x4), (5, .int x5)] → lp_X5_make_32 v_tasks w1_weight w1_before w2 x3 n32 v_begun v_done v_begin v_worker v_taskOf v_endOf x4 x5 kx → W p l e ({ frames := 3, cells := 0, slots := 0, locals := 74 } : Room) s m ([.ref o, .ref q1, .ref q2, .int a3] : List Value).toArray below meth c H locs 0 0 (MQ below (va_Qi (fun (r : Int32) (u : (Int32) × (Int64) × (Int64) × (Nat → Int32) × (Nat → Int32) × (Nat → Int32) × (Nat → Int32)) => post r u.1 u.2.1 u.2.2.1 u.2.2.2.1 u.2.2.2.2.1 u.2.2.2.2.2.1 u.2.2.2.2.2.2) (gb_B D (fun u : (Int32) × (Int64) × (Int64) × (Nat → Int32) × (Nat → Int32) × (Nat → Int32) × (Nat → Int32) => [(o, .inr (5, [.ref o_begin, .ref o_worker, .int u.1, .ref o_taskOf, .ref o_endOf, .long u.2.1, .long u.2.2.1])), (o_begin, .inl (cI, 60, .inl u.2.2.2.1)), (o_worker, .inl (cI, 60, .inl u.2.2.2.2.1)), (o_taskOf, .inl (cI, 8, .inl u.2.2.2.2.2.1)), (o_endOf, .inl (cI, 8, .inl u.2.2.2.2.2.2)), (q1, .inr (2, [.ref q1_weight, .ref q1_after, .ref q1_before, .ref q1_placeOf, .ref q1_taskAt, .int w1_tasks, .int w1_ties])), (q1_weight, .inl (cI, 60, .inl w1_weight)), (q1_before, .inl (cJ, 60, .inr (.inl w1_before))), (q2, .inl (cI, 60, .inl w2))]) A) A) ([.ref o, .ref q1, .ref q2, .int a3] : List Value).toArray s 0 0 A) (F0 m 32 ls []) := by
  obtain ⟨hx, hb, hr, hml, hown, hts, hlocks, hnm, hK, hA⟩ := id C
  replace hown : s.vm.findClass RX5 = some m.cls := hown
  intro n32
  induction n32 with
  | zero => intro v_begun v_done v_begin v_worker v_taskOf v_endOf x4 x5 H locs hP hD hS ls hl h; exact False.elim h
  | succ n32 ih =>
    intro v_begun v_done v_begin v_worker v_taskOf v_endOf x4 x5 H locs hP hD hS ls hl h
    rw [lp_X5_make_32] at h
    refine lv_iload hx hb dX5_make_32 (lv_at hl 5 rfl) ?_
    refine lv_aload_n hx hb dX5_make_34 rfl (lv_at hl 0 rfl) ?_
    refine va_get (D := D) (ci := 5) (v := .int v_tasks) (C := RX5) (T := TX5) (N := 7) hx hb hts in_X5_make_X5 hown hK.1 hP 0 rfl rfl 2 (by decide) (hts (.fieldLink RX5 30 "OrderKeeper$Schedule" "tasks" "I") (List.mem_of_getElem? (i := 2) rfl)) (fun _ h9 => h9) rfl dX5_make_35 ?_
    refine lv_icmp_gt (tgt := 83) hx hb dX5_make_38 (by decide) (fun c2 => ?_) (fun c2 => ?_)
    · replace h := h.1 c2
      exact hkx v_begun v_done v_begin v_worker v_taskOf v_endOf x4 _ _ (hP.sub [0, 1, 2, 3, 4, 5, 6, 7, 8] rfl) (hD.sub [0, 1, 2, 3, 4, 5, 6, 7, 8] (by decide) rfl) hS ls (lv_sub hl [4] rfl) h
    · replace h := h.2 c2
      refine lv_aload_n hx hb dX5_make_41 rfl (lv_at hl 0 rfl) ?_
      refine lv_iload hx hb dX5_make_42 (lv_at hl 4 rfl) ?_
      refine lv_iload_n hx hb dX5_make_44 rfl (lv_at hl 3 rfl) ?_
      refine gb_kv (wc := [(o, .inr (5, [.ref o_begin, .ref o_worker, .int v_tasks, .ref o_taskOf, .ref o_endOf, .long v_begun, .long v_done])), (o_taskOf, .inl (cI, 8, .inl v_taskOf)), (o_endOf, .inl (cI, 8, .inl v_endOf))]) (wr := [(o_begin, .inl (cI, 60, .inl v_begin)), (o_worker, .inl (cI, 60, .inl v_worker)), (q1, .inr (2, [.ref q1_weight, .ref q1_after, .ref q1_before, .ref q1_placeOf, .ref q1_taskAt, .int w1_tasks, .int w1_ties])), (q1_weight, .inl (cI, 60, .inl w1_weight)), (q1_before, .inl (cJ, 60, .inr (.inl w1_before))), (q2, .inl (cI, 60, .inl w2))]) C hP hD hS [0, 3, 4] [1, 2, 5, 6, 7, 8] rfl rfl (by decide) (gb_rV (As := [.int x4, .int x3]) (rest := []) C ((c_X5_endTasks l D cI cJ cZ cO o o_begin o_worker o_taskOf o_endOf v_tasks v_begun v_done v_taskOf v_endOf x4 x3 _ h) _) rfl (cw_X5_make_44 hts ⟨Nat.le_of_ble_eq_true rfl, Nat.le_of_ble_eq_true rfl⟩) (ci := 5) (q0 := 0) rfl rfl rfl rfl hl.1 rfl (Nat.le_of_ble_eq_true rfl) dX5_make_45 ⟨Nat.zero_le _, Nat.zero_le _⟩) ?_
      rintro ⟨v_done_3, v_taskOf_4⟩ H locs h hP hD hS
      try dsimp only at h
      replace hP : va_P D vwCl [(o_begin, .inl (cI, 60, .inl v_begin)), (o_worker, .inl (cI, 60, .inl v_worker)), (q1, .inr (2, [.ref q1_weight, .ref q1_after, .ref q1_before, .ref q1_placeOf, .ref q1_taskAt, .int w1_tasks, .int w1_ties])), (q1_weight, .inl (cI, 60, .inl w1_weight)), (q1_before, .inl (cJ, 60, .inr (.inl w1_before))), (q2, .inl (cI, 60, .inl w2)), (o, .inr (5, [.ref o_begin, .ref o_worker, .int v_tasks, .ref o_taskOf, .ref o_endOf, .long v_begun, .long v_done_3])), (o_taskOf, .inl (cI, 8, .inl v_taskOf_4)), (o_endOf, .inl (cI, 8, .inl v_endOf))] H := hP
      replace hD : va_D A [(o_begin, .inl (cI, 60, .inl v_begin)), (o_worker, .inl (cI, 60, .inl v_worker)), (q1, .inr (2, [.ref q1_weight, .ref q1_after, .ref q1_before, .ref q1_placeOf, .ref q1_taskAt, .int w1_tasks, .int w1_ties])), (q1_weight, .inl (cI, 60, .inl w1_weight)), (q1_before, .inl (cJ, 60, .inr (.inl w1_before))), (q2, .inl (cI, 60, .inl w2)), (o, .inr (5, [.ref o_begin, .ref o_worker, .int v_tasks, .ref o_taskOf, .ref o_endOf, .long v_begun, .long v_done_3])), (o_taskOf, .inl (cI, 8, .inl v_taskOf_4)), (o_endOf, .inl (cI, 8, .inl v_endOf))] := hD
      refine lv_aload_n hx hb dX5_make_48 rfl (lv_at hl 0 rfl) ?_
      refine lv_aload_n hx hb dX5_make_49 rfl (lv_at hl 1 rfl) ?_
      refine lv_aload_n hx hb dX5_make_50 rfl (lv_at hl 2 rfl) ?_
      refine lv_iload_n hx hb dX5_make_51 rfl (lv_at hl 3 rfl) ?_
      refine lv_iload hx hb dX5_make_52 (lv_at hl 4 rfl) ?_
      refine gb_kv (wc := [(o, .inr (5, [.ref o_begin, .ref o_worker, .int v_tasks, .ref o_taskOf, .ref o_endOf, .long v_begun, .long v_done_3])), (o_begin, .inl (cI, 60, .inl v_begin)), (o_worker, .inl (cI, 60, .inl v_worker)), (o_taskOf, .inl (cI, 8, .inl v_taskOf_4)), (o_endOf, .inl (cI, 8, .inl v_endOf)), (q1, .inr (2, [.ref q1_weight, .ref q1_after, .ref q1_before, .ref q1_placeOf, .ref q1_taskAt, .int w1_tasks, .int w1_ties])), (q1_weight, .inl (cI, 60, .inl w1_weight)), (q1_before, .inl (cJ, 60, .inr (.inl w1_before))), (q2, .inl (cI, 60, .inl w2))]) (wr := []) C hP hD hS [6, 0, 1, 7, 8, 2, 3, 4, 5] [] rfl rfl (by decide) (gb_rV (As := [.ref q1, .ref q2, .int x3, .int x4]) (rest := []) C ((c_X5_handOut l D cI cJ cZ cO o o_begin o_worker o_taskOf o_endOf q1 q1_weight q1_after q1_before q1_placeOf q1_taskAt q2 v_tasks v_begun v_done_3 v_begin v_worker v_taskOf_4 v_endOf w1_tasks w1_ties w1_weight w1_before w2 x3 x4 _ h) _) rfl (cw_X5_make_48 hts ⟨Nat.le_of_ble_eq_true rfl, Nat.le_of_ble_eq_true rfl⟩) (ci := 5) (q0 := 0) rfl rfl rfl rfl hl.1 rfl (Nat.le_of_ble_eq_true rfl) dX5_make_54 ⟨Nat.zero_le _, Nat.zero_le _⟩) ?_
      rintro ⟨v_begun_5, v_done_6, v_begin_7, v_worker_8, v_taskOf_9, v_endOf_10⟩ H locs h hP hD hS
      try dsimp only at h
      replace hP : va_P D vwCl [(o, .inr (5, [.ref o_begin, .ref o_worker, .int v_tasks, .ref o_taskOf, .ref o_endOf, .long v_begun_5, .long v_done_6])), (o_begin, .inl (cI, 60, .inl v_begin_7)), (o_worker, .inl (cI, 60, .inl v_worker_8)), (o_taskOf, .inl (cI, 8, .inl v_taskOf_9)), (o_endOf, .inl (cI, 8, .inl v_endOf_10)), (q1, .inr (2, [.ref q1_weight, .ref q1_after, .ref q1_before, .ref q1_placeOf, .ref q1_taskAt, .int w1_tasks, .int w1_ties])), (q1_weight, .inl (cI, 60, .inl w1_weight)), (q1_before, .inl (cJ, 60, .inr (.inl w1_before))), (q2, .inl (cI, 60, .inl w2))] H := hP
      replace hD : va_D A [(o, .inr (5, [.ref o_begin, .ref o_worker, .int v_tasks, .ref o_taskOf, .ref o_endOf, .long v_begun_5, .long v_done_6])), (o_begin, .inl (cI, 60, .inl v_begin_7)), (o_worker, .inl (cI, 60, .inl v_worker_8)), (o_taskOf, .inl (cI, 8, .inl v_taskOf_9)), (o_endOf, .inl (cI, 8, .inl v_endOf_10)), (q1, .inr (2, [.ref q1_weight, .ref q1_after, .ref q1_before, .ref q1_placeOf, .ref q1_taskAt, .int w1_tasks, .int w1_ties])), (q1_weight, .inl (cI, 60, .inl w1_weight)), (q1_before, .inl (cJ, 60, .inr (.inl w1_before))), (q2, .inl (cI, 60, .inl w2))] := hD
      refine lv_aload_n hx hb dX5_make_57 rfl (lv_at hl 0 rfl) ?_
      refine lv_iload_n hx hb dX5_make_58 rfl (lv_at hl 3 rfl) ?_
      refine gb_ki (wc := [(o, .inr (5, [.ref o_begin, .ref o_worker, .int v_tasks, .ref o_taskOf, .ref o_endOf, .long v_begun_5, .long v_done_6])), (o_taskOf, .inl (cI, 8, .inl v_taskOf_9)), (o_endOf, .inl (cI, 8, .inl v_endOf_10))]) (wr := [(o_begin, .inl (cI, 60, .inl v_begin_7)), (o_worker, .inl (cI, 60, .inl v_worker_8)), (q1, .inr (2, [.ref q1_weight, .ref q1_after, .ref q1_before, .ref q1_placeOf, .ref q1_taskAt, .int w1_tasks, .int w1_ties])), (q1_weight, .inl (cI, 60, .inl w1_weight)), (q1_before, .inl (cJ, 60, .inr (.inl w1_before))), (q2, .inl (cI, 60, .inl w2))]) C hP hD hS [0, 3, 4] [1, 2, 5, 6, 7, 8] rfl rfl (by decide) (gb_rV (As := [.int x3]) (rest := []) C ((c_X5_nextEnd l D cI cJ cZ cO o o_begin o_worker o_taskOf o_endOf v_tasks v_begun_5 v_done_6 v_taskOf_9 v_endOf_10 x3 _ h) _) rfl (cw_X5_make_52 hts ⟨Nat.le_of_ble_eq_true rfl, Nat.le_of_ble_eq_true rfl⟩) (ci := 5) (q0 := 0) rfl rfl rfl rfl hl.1 rfl (Nat.le_of_ble_eq_true rfl) dX5_make_59 ⟨Nat.zero_le _, Nat.zero_le _⟩) ?_
      rintro r_11 _ H locs h hP hD hS
      try dsimp only at h
      replace hP : va_P D vwCl [(o_begin, .inl (cI, 60, .inl v_begin_7)), (o_worker, .inl (cI, 60, .inl v_worker_8)), (q1, .inr (2, [.ref q1_weight, .ref q1_after, .ref q1_before, .ref q1_placeOf, .ref q1_taskAt, .int w1_tasks, .int w1_ties])), (q1_weight, .inl (cI, 60, .inl w1_weight)), (q1_before, .inl (cJ, 60, .inr (.inl w1_before))), (q2, .inl (cI, 60, .inl w2)), (o, .inr (5, [.ref o_begin, .ref o_worker, .int v_tasks, .ref o_taskOf, .ref o_endOf, .long v_begun_5, .long v_done_6])), (o_taskOf, .inl (cI, 8, .inl v_taskOf_9)), (o_endOf, .inl (cI, 8, .inl v_endOf_10))] H := hP
      replace hD : va_D A [(o_begin, .inl (cI, 60, .inl v_begin_7)), (o_worker, .inl (cI, 60, .inl v_worker_8)), (q1, .inr (2, [.ref q1_weight, .ref q1_after, .ref q1_before, .ref q1_placeOf, .ref q1_taskAt, .int w1_tasks, .int w1_ties])), (q1_weight, .inl (cI, 60, .inl w1_weight)), (q1_before, .inl (cJ, 60, .inr (.inl w1_before))), (q2, .inl (cI, 60, .inl w2)), (o, .inr (5, [.ref o_begin, .ref o_worker, .int v_tasks, .ref o_taskOf, .ref o_endOf, .long v_begun_5, .long v_done_6])), (o_taskOf, .inl (cI, 8, .inl v_taskOf_9)), (o_endOf, .inl (cI, 8, .inl v_endOf_10))] := hD
      refine lv_istore (lv' := [(6, .int r_11), (0, .ref o), (1, .ref q1), (2, .ref q2), (3, .int x3), (4, .int x4), (5, .int x5)]) hx hb dX5_make_62 hl (by decide) rfl (fun ls hl => ?_)
      refine lv_iload hx hb dX5_make_64 (lv_at hl 0 rfl) ?_
      refine lv_iconst (v := (-1)) hx hb dX5_make_66 (by decide) ?_
      refine lv_icmp_ne (tgt := 73) hx hb dX5_make_67 (by decide) (fun c12 => ?_) (fun c12 => ?_)
      · replace h := h.2 c12
        refine lv_iload hx hb dX5_make_73 (lv_at hl 0 rfl) ?_
        refine lv_istore (lv' := [(4, .int r_11), (6, .int r_11), (0, .ref o), (1, .ref q1), (2, .ref q2), (3, .int x3), (5, .int x5)]) hx hb dX5_make_75 hl (by decide) rfl (fun ls hl => ?_)
        obtain ⟨x5_13, ex5_13⟩ : ∃ z : Int32, z = x5 + 1 := ⟨_, rfl⟩
        refine lv_iinc (v := x5_13) (lv' := [(5, .int x5_13), (4, .int r_11), (6, .int r_11), (0, .ref o), (1, .ref q1), (2, .ref q2), (3, .int x3)]) hx hb dX5_make_77 hl (k := 6) rfl (by rw [ex5_13]; rfl) (by decide) rfl (fun ls hl => ?_)
        replace h := h x5_13 ex5_13
        refine lv_goto (tgt := 32) hx hb dX5_make_80 (by decide) ?_
        exact ih v_begun_5 v_done_6 v_begin_7 v_worker_8 v_taskOf_9 v_endOf_10 r_11 x5_13 _ _ (hP.sub [6, 0, 1, 7, 8, 2, 3, 4, 5] rfl) (hD.sub [6, 0, 1, 7, 8, 2, 3, 4, 5] (by decide) rfl) hS ls (lv_sub hl [3, 4, 5, 6, 1, 0] rfl) h
      · replace h := h.1 c12
        refine lv_goto (tgt := 83) hx hb dX5_make_70 (by decide) ?_
        exact hkx v_begun_5 v_done_6 v_begin_7 v_worker_8 v_taskOf_9 v_endOf_10 x4 _ _ (hP.sub [6, 0, 1, 7, 8, 2, 3, 4, 5] rfl) (hD.sub [6, 0, 1, 7, 8, 2, 3, 4, 5] (by decide) rfl) hS ls (lv_sub hl [5] rfl) h
def wp_X5_make (v_tasks : Int32) (v_begun : Int64) (v_done : Int64) (v_begin : Nat → Int32) (v_worker : Nat → Int32) (v_taskOf : Nat → Int32) (v_endOf : Nat → Int32) (w1_tasks : Int32) (w1_weight : Nat → Int32) (w1_before : Nat → Int64) (w2 : Nat → Int32) (a3 : Int32) (post : Int32 → (Int32) → (Int64) → (Int64) → (Nat → Int32) → (Nat → Int32) → (Nat → Int32) → (Nat → Int32) → Prop) : Prop := wp_J7_fill_53178 v_taskOf (-1) 8 (fun (v_taskOf_1 : Nat → Int32) => (∃ n32 : Nat, lp_X5_make_32 w1_tasks w1_weight w1_before w2 a3 n32 0 0 v_begin v_worker v_taskOf_1 v_endOf 0 0 (fun (v_begun_14 : Int64) (v_done_15 : Int64) (v_begin_16 : Nat → Int32) (v_worker_17 : Nat → Int32) (v_taskOf_18 : Nat → Int32) (v_endOf_19 : Nat → Int32) (x4_20 : Int32) => post x4_20 w1_tasks v_begun_14 v_done_15 v_begin_16 v_worker_17 v_taskOf_18 v_endOf_19)))
set_option maxHeartbeats 4000000 in
set_option maxRecDepth 100000 in
theorem c_X5_make (l : Launch) (D : va_G) (cI cJ cZ cO : ClassId) (o : Nat) (o_begin : Nat) (o_worker : Nat) (o_taskOf : Nat) (o_endOf : Nat) (q1 : Nat) (q1_weight : Nat) (q1_after : Nat) (q1_before : Nat) (q1_placeOf : Nat) (q1_taskAt : Nat) (q2 : Nat) (v_tasks : Int32) (v_begun : Int64) (v_done : Int64) (v_begin : Nat → Int32) (v_worker : Nat → Int32) (v_taskOf : Nat → Int32) (v_endOf : Nat → Int32) (w1_tasks : Int32) (w1_ties : Int32) (w1_weight : Nat → Int32) (w1_before : Nat → Int64) (w2 : Nat → Int32) (a3 : Int32) (post : Int32 → (Int32) → (Int64) → (Int64) → (Nat → Int32) → (Nat → Int32) → (Nat → Int32) → (Nat → Int32) → Prop) (hw : wp_X5_make v_tasks v_begun v_done v_begin v_worker v_taskOf v_endOf w1_tasks w1_weight w1_before w2 a3 post) : gb_Ci D cI cJ cZ cO l yX5_make wsX5_make ({ frames := 3, cells := 0, slots := 0, locals := 74 }) [.ref o, .ref q1, .ref q2, .int a3] [(o, .inr (5, [.ref o_begin, .ref o_worker, .int v_tasks, .ref o_taskOf, .ref o_endOf, .long v_begun, .long v_done])), (o_begin, .inl (cI, 60, .inl v_begin)), (o_worker, .inl (cI, 60, .inl v_worker)), (o_taskOf, .inl (cI, 8, .inl v_taskOf)), (o_endOf, .inl (cI, 8, .inl v_endOf)), (q1, .inr (2, [.ref q1_weight, .ref q1_after, .ref q1_before, .ref q1_placeOf, .ref q1_taskAt, .int w1_tasks, .int w1_ties])), (q1_weight, .inl (cI, 60, .inl w1_weight)), (q1_before, .inl (cJ, 60, .inr (.inl w1_before))), (q2, .inl (cI, 60, .inl w2))] (fun (r : Int32) (u : (Int32) × (Int64) × (Int64) × (Nat → Int32) × (Nat → Int32) × (Nat → Int32) × (Nat → Int32)) => post r u.1 u.2.1 u.2.2.1 u.2.2.2.1 u.2.2.2.2.1 u.2.2.2.2.2.1 u.2.2.2.2.2.2) (fun u : (Int32) × (Int64) × (Int64) × (Nat → Int32) × (Nat → Int32) × (Nat → Int32) × (Nat → Int32) => [(o, .inr (5, [.ref o_begin, .ref o_worker, .int u.1, .ref o_taskOf, .ref o_endOf, .long u.2.1, .long u.2.2.1])), (o_begin, .inl (cI, 60, .inl u.2.2.2.1)), (o_worker, .inl (cI, 60, .inl u.2.2.2.2.1)), (o_taskOf, .inl (cI, 8, .inl u.2.2.2.2.2.1)), (o_endOf, .inl (cI, 8, .inl u.2.2.2.2.2.2)), (q1, .inr (2, [.ref q1_weight, .ref q1_after, .ref q1_before, .ref q1_placeOf, .ref q1_taskAt, .int w1_tasks, .int w1_ties])), (q1_weight, .inl (cI, 60, .inl w1_weight)), (q1_before, .inl (cJ, 60, .inr (.inl w1_before))), (q2, .inl (cI, 60, .inl w2))]) 0 0 := by
  refine gb_mi (cc := cX5_make) (maxL := 7) (ret := (some .int)) (by decide) rfl (Nat.le_of_ble_eq_true rfl) ?_
  · intro p e s m below meth c A C hP hD hS ls hl
    obtain ⟨hx, hb, hr, hml, hown, hts, hlocks, hnm, hK, hA⟩ := id C
    replace hown : s.vm.findClass RX5 = some m.cls := hown
    have h := hw
    unfold wp_X5_make at h
    replace hl : lv_has ls 7 [(0, .ref o), (1, .ref q1), (2, .ref q2), (3, .int a3)] := hl
    refine lv_aload_n hx hb dX5_make_0 rfl (lv_at hl 0 rfl) ?_
    refine lv_aload_n hx hb dX5_make_1 rfl (lv_at hl 1 rfl) ?_
    refine va_get (D := D) (ci := 2) (v := .int w1_tasks) (C := RX2) (T := TX2) (N := 7) hx hb hts in_X5_make_X2 hown hK.1 hP 5 rfl rfl 5 (by decide) (hts (.fieldLink RX5 24 "OrderKeeper$Net" "tasks" "I") (List.mem_of_getElem? (i := 1) rfl)) (fun _ h9 => h9) rfl dX5_make_2 ?_
    refine va_put (D := D) (ci := 5) (v := .int w1_tasks) (ty := .int) (C := RX5) (T := TX5) (N := 7) hx hb hts in_X5_make_X5 tyX5 tyX5_ok nmX5 hown hK.1 hP hD hS 0 rfl rfl 2 (by decide) (hts (.fieldLink RX5 30 "OrderKeeper$Schedule" "tasks" "I") (List.mem_of_getElem? (i := 2) rfl)) (fun _ h9 => h9) rfl (tyX5_ok 2 (by decide)) rfl rfl (Nat.le_of_ble_eq_true rfl) dX5_make_5 (fun H locs hP hD hS => ?_)
    replace hP : va_P D vwCl [(o, .inr (5, [.ref o_begin, .ref o_worker, .int w1_tasks, .ref o_taskOf, .ref o_endOf, .long v_begun, .long v_done])), (o_begin, .inl (cI, 60, .inl v_begin)), (o_worker, .inl (cI, 60, .inl v_worker)), (o_taskOf, .inl (cI, 8, .inl v_taskOf)), (o_endOf, .inl (cI, 8, .inl v_endOf)), (q1, .inr (2, [.ref q1_weight, .ref q1_after, .ref q1_before, .ref q1_placeOf, .ref q1_taskAt, .int w1_tasks, .int w1_ties])), (q1_weight, .inl (cI, 60, .inl w1_weight)), (q1_before, .inl (cJ, 60, .inr (.inl w1_before))), (q2, .inl (cI, 60, .inl w2))] H := hP
    replace hD : va_D A [(o, .inr (5, [.ref o_begin, .ref o_worker, .int w1_tasks, .ref o_taskOf, .ref o_endOf, .long v_begun, .long v_done])), (o_begin, .inl (cI, 60, .inl v_begin)), (o_worker, .inl (cI, 60, .inl v_worker)), (o_taskOf, .inl (cI, 8, .inl v_taskOf)), (o_endOf, .inl (cI, 8, .inl v_endOf)), (q1, .inr (2, [.ref q1_weight, .ref q1_after, .ref q1_before, .ref q1_placeOf, .ref q1_taskAt, .int w1_tasks, .int w1_ties])), (q1_weight, .inl (cI, 60, .inl w1_weight)), (q1_before, .inl (cJ, 60, .inr (.inl w1_before))), (q2, .inl (cI, 60, .inl w2))] := hD
    refine lv_aload_n hx hb dX5_make_8 rfl (lv_at hl 0 rfl) ?_
    refine lv_lconst (v := 0) hx hb dX5_make_9 (by decide) ?_
    refine va_put (D := D) (ci := 5) (v := .long 0) (ty := .long) (C := RX5) (T := TX5) (N := 7) hx hb hts in_X5_make_X5 tyX5 tyX5_ok nmX5 hown hK.1 hP hD hS 0 rfl rfl 5 (by decide) (hts (.fieldLink RX5 31 "OrderKeeper$Schedule" "begun" "J") (List.mem_of_getElem? (i := 3) rfl)) (fun _ h9 => h9) rfl (tyX5_ok 5 (by decide)) rfl rfl (Nat.le_of_ble_eq_true rfl) dX5_make_10 (fun H locs hP hD hS => ?_)
    replace hP : va_P D vwCl [(o, .inr (5, [.ref o_begin, .ref o_worker, .int w1_tasks, .ref o_taskOf, .ref o_endOf, .long 0, .long v_done])), (o_begin, .inl (cI, 60, .inl v_begin)), (o_worker, .inl (cI, 60, .inl v_worker)), (o_taskOf, .inl (cI, 8, .inl v_taskOf)), (o_endOf, .inl (cI, 8, .inl v_endOf)), (q1, .inr (2, [.ref q1_weight, .ref q1_after, .ref q1_before, .ref q1_placeOf, .ref q1_taskAt, .int w1_tasks, .int w1_ties])), (q1_weight, .inl (cI, 60, .inl w1_weight)), (q1_before, .inl (cJ, 60, .inr (.inl w1_before))), (q2, .inl (cI, 60, .inl w2))] H := hP
    replace hD : va_D A [(o, .inr (5, [.ref o_begin, .ref o_worker, .int w1_tasks, .ref o_taskOf, .ref o_endOf, .long 0, .long v_done])), (o_begin, .inl (cI, 60, .inl v_begin)), (o_worker, .inl (cI, 60, .inl v_worker)), (o_taskOf, .inl (cI, 8, .inl v_taskOf)), (o_endOf, .inl (cI, 8, .inl v_endOf)), (q1, .inr (2, [.ref q1_weight, .ref q1_after, .ref q1_before, .ref q1_placeOf, .ref q1_taskAt, .int w1_tasks, .int w1_ties])), (q1_weight, .inl (cI, 60, .inl w1_weight)), (q1_before, .inl (cJ, 60, .inr (.inl w1_before))), (q2, .inl (cI, 60, .inl w2))] := hD
    refine lv_aload_n hx hb dX5_make_13 rfl (lv_at hl 0 rfl) ?_
    refine lv_lconst (v := 0) hx hb dX5_make_14 (by decide) ?_
    refine va_put (D := D) (ci := 5) (v := .long 0) (ty := .long) (C := RX5) (T := TX5) (N := 7) hx hb hts in_X5_make_X5 tyX5 tyX5_ok nmX5 hown hK.1 hP hD hS 0 rfl rfl 6 (by decide) (hts (.fieldLink RX5 35 "OrderKeeper$Schedule" "done" "J") (List.mem_of_getElem? (i := 4) rfl)) (fun _ h9 => h9) rfl (tyX5_ok 6 (by decide)) rfl rfl (Nat.le_of_ble_eq_true rfl) dX5_make_15 (fun H locs hP hD hS => ?_)
    replace hP : va_P D vwCl [(o, .inr (5, [.ref o_begin, .ref o_worker, .int w1_tasks, .ref o_taskOf, .ref o_endOf, .long 0, .long 0])), (o_begin, .inl (cI, 60, .inl v_begin)), (o_worker, .inl (cI, 60, .inl v_worker)), (o_taskOf, .inl (cI, 8, .inl v_taskOf)), (o_endOf, .inl (cI, 8, .inl v_endOf)), (q1, .inr (2, [.ref q1_weight, .ref q1_after, .ref q1_before, .ref q1_placeOf, .ref q1_taskAt, .int w1_tasks, .int w1_ties])), (q1_weight, .inl (cI, 60, .inl w1_weight)), (q1_before, .inl (cJ, 60, .inr (.inl w1_before))), (q2, .inl (cI, 60, .inl w2))] H := hP
    replace hD : va_D A [(o, .inr (5, [.ref o_begin, .ref o_worker, .int w1_tasks, .ref o_taskOf, .ref o_endOf, .long 0, .long 0])), (o_begin, .inl (cI, 60, .inl v_begin)), (o_worker, .inl (cI, 60, .inl v_worker)), (o_taskOf, .inl (cI, 8, .inl v_taskOf)), (o_endOf, .inl (cI, 8, .inl v_endOf)), (q1, .inr (2, [.ref q1_weight, .ref q1_after, .ref q1_before, .ref q1_placeOf, .ref q1_taskAt, .int w1_tasks, .int w1_ties])), (q1_weight, .inl (cI, 60, .inl w1_weight)), (q1_before, .inl (cJ, 60, .inr (.inl w1_before))), (q2, .inl (cI, 60, .inl w2))] := hD
    refine lv_aload_n hx hb dX5_make_18 rfl (lv_at hl 0 rfl) ?_
    refine va_get (D := D) (ci := 5) (v := .ref o_taskOf) (C := RX5) (T := TX5) (N := 7) hx hb hts in_X5_make_X5 hown hK.1 hP 0 rfl rfl 3 (by decide) (hts (.fieldLink RX5 18 "OrderKeeper$Schedule" "taskOf" "[I") (List.mem_of_getElem? (i := 5) rfl)) (fun _ h9 => h9) rfl dX5_make_19 ?_
    refine lv_iconst (v := (-1)) hx hb dX5_make_22 (by decide) ?_
    refine gb_kv (wc := [(o_taskOf, .inl (cI, 8, .inl v_taskOf))]) (wr := [(o, .inr (5, [.ref o_begin, .ref o_worker, .int w1_tasks, .ref o_taskOf, .ref o_endOf, .long 0, .long 0])), (o_begin, .inl (cI, 60, .inl v_begin)), (o_worker, .inl (cI, 60, .inl v_worker)), (o_endOf, .inl (cI, 8, .inl v_endOf)), (q1, .inr (2, [.ref q1_weight, .ref q1_after, .ref q1_before, .ref q1_placeOf, .ref q1_taskAt, .int w1_tasks, .int w1_ties])), (q1_weight, .inl (cI, 60, .inl w1_weight)), (q1_before, .inl (cJ, 60, .inr (.inl w1_before))), (q2, .inl (cI, 60, .inl w2))]) C hP hD hS [3] [0, 1, 2, 4, 5, 6, 7, 8] rfl rfl (by decide) (gb_rS (As := [.ref o_taskOf, .int (-1)]) (rest := []) C ((c_J7_fill_53178 l D cI cJ cZ cO o_taskOf v_taskOf (-1) 8 _ h) _) rfl (cw_X5_make_38 hts ⟨Nat.le_of_ble_eq_true rfl, Nat.le_of_ble_eq_true rfl⟩) rfl hl.1 rfl (Nat.le_of_ble_eq_true rfl) dX5_make_23 ⟨Nat.zero_le _, Nat.zero_le _⟩) ?_
    rintro v_taskOf_1 H locs h hP hD hS
    try dsimp only at h
    replace hP : va_P D vwCl [(o, .inr (5, [.ref o_begin, .ref o_worker, .int w1_tasks, .ref o_taskOf, .ref o_endOf, .long 0, .long 0])), (o_begin, .inl (cI, 60, .inl v_begin)), (o_worker, .inl (cI, 60, .inl v_worker)), (o_endOf, .inl (cI, 8, .inl v_endOf)), (q1, .inr (2, [.ref q1_weight, .ref q1_after, .ref q1_before, .ref q1_placeOf, .ref q1_taskAt, .int w1_tasks, .int w1_ties])), (q1_weight, .inl (cI, 60, .inl w1_weight)), (q1_before, .inl (cJ, 60, .inr (.inl w1_before))), (q2, .inl (cI, 60, .inl w2)), (o_taskOf, .inl (cI, 8, .inl v_taskOf_1))] H := hP
    replace hD : va_D A [(o, .inr (5, [.ref o_begin, .ref o_worker, .int w1_tasks, .ref o_taskOf, .ref o_endOf, .long 0, .long 0])), (o_begin, .inl (cI, 60, .inl v_begin)), (o_worker, .inl (cI, 60, .inl v_worker)), (o_endOf, .inl (cI, 8, .inl v_endOf)), (q1, .inr (2, [.ref q1_weight, .ref q1_after, .ref q1_before, .ref q1_placeOf, .ref q1_taskAt, .int w1_tasks, .int w1_ties])), (q1_weight, .inl (cI, 60, .inl w1_weight)), (q1_before, .inl (cJ, 60, .inr (.inl w1_before))), (q2, .inl (cI, 60, .inl w2)), (o_taskOf, .inl (cI, 8, .inl v_taskOf_1))] := hD
    refine lv_iconst (v := 0) hx hb dX5_make_26 (by decide) ?_
    refine lv_istore (lv' := [(4, .int 0), (0, .ref o), (1, .ref q1), (2, .ref q2), (3, .int a3)]) hx hb dX5_make_27 hl (by decide) rfl (fun ls hl => ?_)
    refine lv_iconst (v := 0) hx hb dX5_make_29 (by decide) ?_
    refine lv_istore (lv' := [(5, .int 0), (4, .int 0), (0, .ref o), (1, .ref q1), (2, .ref q2), (3, .int a3)]) hx hb dX5_make_30 hl (by decide) rfl (fun ls hl => ?_)
    obtain ⟨n32, h⟩ := h
    refine ml_X5_make_32 o o_begin o_worker o_taskOf o_endOf q1 q1_weight q1_after q1_before q1_placeOf q1_taskAt q2 w1_tasks w1_tasks w1_ties w1_weight w1_before w2 a3 a3 C post _ ?_ n32 0 0 v_begin v_worker v_taskOf_1 v_endOf 0 0 _ _ (hP.sub [0, 1, 2, 8, 3, 4, 5, 6, 7] rfl) (hD.sub [0, 1, 2, 8, 3, 4, 5, 6, 7] (by decide) rfl) hS ls (lv_sub hl [2, 3, 4, 5, 1, 0] rfl) h
    intro v_begun_14 v_done_15 v_begin_16 v_worker_17 v_taskOf_18 v_endOf_19 x4_20 H locs hP hD hS ls hl h
    refine lv_iload hx hb dX5_make_83 (lv_at hl 0 rfl) ?_
    exact gb_reti C (w1_tasks, v_begun_14, v_done_15, v_begin_16, v_worker_17, v_taskOf_18, v_endOf_19) (hP.sub [0, 1, 2, 3, 4, 5, 6, 7, 8] rfl) (hD.sub [0, 1, 2, 3, 4, 5, 6, 7, 8] (by decide) rfl) hS h dX5_make_85
