/-! OrderKeeper.bit(I)J -/
theorem hdS_X7_bit : yX7_bit.cls ≠ "java/lang/invoke/MethodHandle" ∧ yX7_bit.cls ≠ "java/lang/invoke/VarHandle" ∧ (parseMethodDescriptor yX7_bit.desc).map (fun d => d.parameters.length) = some 1 := by decide +kernel
def wp_X7_bit (a1 : Int32) (post : Int64 → Prop) : Prop := post (gb_shl 1 a1)
set_option maxHeartbeats 4000000 in
set_option maxRecDepth 100000 in
theorem c_X7_bit (l : Launch) (D : va_G) (cI cJ cZ cO : ClassId) (a1 : Int32) (post : Int64 → Prop) (hw : wp_X7_bit a1 post) : gb_Cl D cI cJ cZ cO l yX7_bit wsX7_bit ({ frames := 0, cells := 0, slots := 0, locals := 0 }) [.int a1] [] (fun (r : Int64) (_ : Unit) => post r ) (fun _ : Unit => []) 0 0 := by
  refine gb_ml (cc := cX7_bit) (maxL := 1) (ret := (some .long)) (by decide) rfl (Nat.le_of_ble_eq_true rfl) ?_
  · intro p e s m below meth c A C hP hD hS ls hl
    obtain ⟨hx, hb, hr, hml, hown, hts, hlocks, hnm, hK, hA⟩ := id C
    replace hown : s.vm.findClass RX7 = some m.cls := hown
    have h := hw
    unfold wp_X7_bit at h
    replace hl : lv_has ls 1 [(0, .int a1)] := hl
    refine lv_lconst (v := 1) hx hb dX7_bit_0 (by decide) ?_
    refine lv_iload_n hx hb dX7_bit_1 rfl (lv_at hl 0 rfl) ?_
    refine lv_lshl (v := gb_shl 1 a1) hx hb dX7_bit_2 rfl ?_
    exact gb_retl C () (hP.sub [] rfl) (hD.sub [] (by decide) rfl) hS h dX7_bit_3
/-! OrderKeeper.has(JI)Z -/
theorem hdS_X7_has : yX7_has.cls ≠ "java/lang/invoke/MethodHandle" ∧ yX7_has.cls ≠ "java/lang/invoke/VarHandle" ∧ (parseMethodDescriptor yX7_has.desc).map (fun d => d.parameters.length) = some 2 := by decide +kernel
def wp_X7_has (a1 : Int64) (a2 : Int32) (post : Int32 → Prop) : Prop := (((lg_cmp ((gb_ushr a1 a2) &&& 1) 0) = 0 → post 0) ∧ (¬ ((lg_cmp ((gb_ushr a1 a2) &&& 1) 0) = 0) → post 1))
set_option maxHeartbeats 4000000 in
set_option maxRecDepth 100000 in
theorem c_X7_has (l : Launch) (D : va_G) (cI cJ cZ cO : ClassId) (a1 : Int64) (a2 : Int32) (post : Int32 → Prop) (hw : wp_X7_has a1 a2 post) : gb_Ci D cI cJ cZ cO l yX7_has wsX7_has ({ frames := 0, cells := 0, slots := 0, locals := 0 }) [.long a1, .int a2] [] (fun (r : Int32) (_ : Unit) => post r ) (fun _ : Unit => []) 0 0 := by
  refine gb_mi (cc := cX7_has) (maxL := 3) (ret := (some .boolean)) (by decide) rfl (Nat.le_of_ble_eq_true rfl) ?_
  · intro p e s m below meth c A C hP hD hS ls hl
    obtain ⟨hx, hb, hr, hml, hown, hts, hlocks, hnm, hK, hA⟩ := id C
    replace hown : s.vm.findClass RX7 = some m.cls := hown
    have h := hw
    unfold wp_X7_has at h
    replace hl : lv_has ls 3 [(0, .long a1), (2, .int a2)] := hl
    refine lv_lload_n hx hb dX7_has_0 rfl (lv_at hl 0 rfl) ?_
    refine lv_iload_n hx hb dX7_has_1 rfl (lv_at hl 1 rfl) ?_
    refine lv_lushr (v := gb_ushr a1 a2) hx hb dX7_has_2 rfl ?_
    refine lv_lconst (v := 1) hx hb dX7_has_3 (by decide) ?_
    refine lv_land hx hb dX7_has_4 ?_
    refine lv_lconst (v := 0) hx hb dX7_has_5 (by decide) ?_
    refine W.lcmp hx hb dX7_has_6 ?_
    refine lv_if_eq (tgt := 14) hx hb dX7_has_7 (by decide) (fun c1 => ?_) (fun c1 => ?_)
    · replace h := h.1 c1
      refine lv_iconst (v := 0) hx hb dX7_has_14 (by decide) ?_
      exact gb_retz C () (hP.sub [] rfl) (hD.sub [] (by decide) rfl) hS (by decide) h dX7_has_15
    · replace h := h.2 c1
      refine lv_iconst (v := 1) hx hb dX7_has_10 (by decide) ?_
      refine lv_goto (tgt := 15) hx hb dX7_has_11 (by decide) ?_
      exact gb_retz C () (hP.sub [] rfl) (hD.sub [] (by decide) rfl) hS (by decide) h dX7_has_15
/-! OrderKeeper.isWeight(I)Z -/
theorem hdS_X7_isWeight : yX7_isWeight.cls ≠ "java/lang/invoke/MethodHandle" ∧ yX7_isWeight.cls ≠ "java/lang/invoke/VarHandle" ∧ (parseMethodDescriptor yX7_isWeight.desc).map (fun d => d.parameters.length) = some 1 := by decide +kernel
def wp_X7_isWeight (a1 : Int32) (post : Int32 → Prop) : Prop := ((a1 < 0 → post 0) ∧ (¬ (a1 < 0) → ((1000 < a1 → post 0) ∧ (¬ (1000 < a1) → post 1))))
set_option maxHeartbeats 4000000 in
set_option maxRecDepth 100000 in
theorem c_X7_isWeight (l : Launch) (D : va_G) (cI cJ cZ cO : ClassId) (a1 : Int32) (post : Int32 → Prop) (hw : wp_X7_isWeight a1 post) : gb_Ci D cI cJ cZ cO l yX7_isWeight wsX7_isWeight ({ frames := 0, cells := 0, slots := 0, locals := 0 }) [.int a1] [] (fun (r : Int32) (_ : Unit) => post r ) (fun _ : Unit => []) 0 0 := by
  refine gb_mi (cc := cX7_isWeight) (maxL := 1) (ret := (some .boolean)) (by decide) rfl (Nat.le_of_ble_eq_true rfl) ?_
  · intro p e s m below meth c A C hP hD hS ls hl
    obtain ⟨hx, hb, hr, hml, hown, hts, hlocks, hnm, hK, hA⟩ := id C
    replace hown : s.vm.findClass RX7 = some m.cls := hown
    have h := hw
    unfold wp_X7_isWeight at h
    replace hl : lv_has ls 1 [(0, .int a1)] := hl
    refine lv_iload_n hx hb dX7_isWeight_0 rfl (lv_at hl 0 rfl) ?_
    refine lv_if_lt (tgt := 15) hx hb dX7_isWeight_1 (by decide) (fun c1 => ?_) (fun c1 => ?_)
    · replace h := h.1 c1
      refine lv_iconst (v := 0) hx hb dX7_isWeight_15 (by decide) ?_
      exact gb_retz C () (hP.sub [] rfl) (hD.sub [] (by decide) rfl) hS (by decide) h dX7_isWeight_16
    · replace h := h.2 c1
      refine lv_iload_n hx hb dX7_isWeight_4 rfl (lv_at hl 0 rfl) ?_
      refine lv_sipush (v := 1000) hx hb dX7_isWeight_5 (by decide) ?_
      refine lv_icmp_gt (tgt := 15) hx hb dX7_isWeight_8 (by decide) (fun c2 => ?_) (fun c2 => ?_)
      · replace h := h.1 c2
        refine lv_iconst (v := 0) hx hb dX7_isWeight_15 (by decide) ?_
        exact gb_retz C () (hP.sub [] rfl) (hD.sub [] (by decide) rfl) hS (by decide) h dX7_isWeight_16
      · replace h := h.2 c2
        refine lv_iconst (v := 1) hx hb dX7_isWeight_11 (by decide) ?_
        refine lv_goto (tgt := 16) hx hb dX7_isWeight_12 (by decide) ?_
        exact gb_retz C () (hP.sub [] rfl) (hD.sub [] (by decide) rfl) hS (by decide) h dX7_isWeight_16
/-! java/util/Arrays.fill([II)V -/
theorem hdS_J7_fill_53178 : yJ7_fill_53178.cls ≠ "java/lang/invoke/MethodHandle" ∧ yJ7_fill_53178.cls ≠ "java/lang/invoke/VarHandle" ∧ (parseMethodDescriptor yJ7_fill_53178.desc).map (fun d => d.parameters.length) = some 2 := by decide +kernel
def lp_J7_fill_53178_5 (x1 : Int32) (x3 : Int32) (n1 : Nat) : Nat → (Nat → Int32) → (Int32) → ((Nat → Int32) → Prop) → Prop
  | 0, _, _, _ => False
  | n5 + 1, w1, x2, kx => ((x3 ≤ x2 → kx w1) ∧ (¬ (x3 ≤ x2) → vp_in x2 n1 ∧ ∀ w1_4 : Nat → Int32, w1_4 = upd w1 x2.toNatClampNeg x1 → ∀ x2_5 : Int32, x2_5 = x2 + 1 → lp_J7_fill_53178_5 x1 x3 n1 n5 w1_4 x2_5 kx))
set_option maxHeartbeats 4000000 in
set_option maxRecDepth 100000 in
theorem ml_J7_fill_53178_5 {D : va_G} {cI cJ cZ cO : ClassId} {p : Program} {l : Launch} {e : Env} {s : State} {m : MethodId} {below : List Frame} {meth : Method} {c : Code} {A : Nat → Prop} (q1 : Nat) (a2 : Int32) (n1 : Nat) (x1 : Int32) (x3 : Int32) (C : gb_At D cI cJ cZ cO p s m meth c ([.ref q1, .int a2] : List Value).toArray A yJ7_fill_53178 cJ7_fill_53178 none 4 wsJ7_fill_53178) (post : (Nat → Int32) → Prop) (kx : ((Nat → Int32) → Prop)) (hkx : ∀ (w1 : Nat → Int32) (H : Heap) (locs : List Loc), va_P D vwCl [(q1, .inl (cI, n1, .inl w1))] H → va_D A [(q1, .inl (cI, n1, .inl w1))] → va_S A s.heap H locs → ∀ ls : Array Slot, lv_has ls 4 [] → kx w1 → W p l e ({ frames := 0, cells := 0, slots := 0, locals := 0 } : Room) s m ([.ref q1, .int a2] : List Value).toArray below meth c H locs 0 0 (MQ below (va_Qv (fun u : (Nat → Int32) => post u) (gb_B D (fun u : (Nat → Int32) => [(q1, .inl (cI, n1, .inl u))]) A) A) ([.ref q1, .int a2] : List Value).toArray s 0 0 A) (F0 m 20 ls [])) :
    ∀ (n5 : Nat) (w1 : Nat → Int32) (x2 : Int32) (H : Heap) (locs : List Loc), va_P D vwCl [(q1, .inl (cI, n1, .inl w1))] H → va_D A [(q1, .inl (cI, n1, .inl w1))] → va_S A s.heap H locs → ∀ ls : Array Slot, lv_has ls 4 [(0, .ref q1), (1, .int x1), (2, .int x2), (3, .int x3)] → lp_J7_fill_53178_5 x1 x3 n1 n5 w1 x2 kx → W p l e ({ frames := 0, cells := 0, slots := 0, locals := 0 } : Room) s m ([.ref q1, .int a2] : List Value).toArray below meth c H locs 0 0 (MQ below (va_Qv (fun u : (Nat → Int32) => post u) (gb_B D (fun u : (Nat → Int32) => [(q1, .inl (cI, n1, .inl u))]) A) A) ([.ref q1, .int a2] : List Value).toArray s 0 0 A) (F0 m 5 ls []) := by
  obtain ⟨hx, hb, hr, hml, hown, hts, hlocks, hnm, hK, hA⟩ := id C
  replace hown : s.vm.findClass RJ7 = some m.cls := hown
  intro n5
  induction n5 with
  | zero => intro w1 x2 H locs hP hD hS ls hl h; exact False.elim h
  | succ n5 ih =>
    intro w1 x2 H locs hP hD hS ls hl h
    rw [lp_J7_fill_53178_5] at h
    refine lv_iload_n hx hb dJ7_fill_53178_5 rfl (lv_at hl 2 rfl) ?_
    refine lv_iload_n hx hb dJ7_fill_53178_6 rfl (lv_at hl 3 rfl) ?_
    refine lv_icmp_ge (tgt := 20) hx hb dJ7_fill_53178_7 (by decide) (fun c2 => ?_) (fun c2 => ?_)
    · replace h := h.1 c2
      exact hkx w1 _ _ (hP.sub [0] rfl) (hD.sub [0] (by decide) rfl) hS ls (lv_sub hl [] rfl) h
    · replace h := h.2 c2
      refine lv_aload_n hx hb dJ7_fill_53178_10 rfl (lv_at hl 0 rfl) ?_
      refine lv_iload_n hx hb dJ7_fill_53178_11 rfl (lv_at hl 2 rfl) ?_
      refine lv_iload_n hx hb dJ7_fill_53178_12 rfl (lv_at hl 1 rfl) ?_
      obtain ⟨hi3, h⟩ := h
      obtain ⟨w1_4, ew1_4⟩ : ∃ z : Nat → Int32, z = upd w1 x2.toNatClampNeg x1 := ⟨_, rfl⟩
      refine va_iast hx hb hK.1 hP hD hS 0 0 rfl rfl hi3 dJ7_fill_53178_13 (fun H locs hP hD hS => ?_)
      replace hP : va_P D vwCl [(q1, .inl (cI, n1, .inl w1_4))] H := by rw [ew1_4]; exact hP
      replace hD : va_D A [(q1, .inl (cI, n1, .inl w1_4))] := by rw [ew1_4]; exact hD
      replace h := h w1_4 ew1_4
      obtain ⟨x2_5, ex2_5⟩ : ∃ z : Int32, z = x2 + 1 := ⟨_, rfl⟩
      refine lv_iinc (v := x2_5) (lv' := [(2, .int x2_5), (0, .ref q1), (1, .int x1), (3, .int x3)]) hx hb dJ7_fill_53178_14 hl (k := 2) rfl (by rw [ex2_5]; rfl) (by decide) rfl (fun ls hl => ?_)
      replace h := h x2_5 ex2_5
      refine lv_goto (tgt := 5) hx hb dJ7_fill_53178_17 (by decide) ?_
      exact ih w1_4 x2_5 _ _ (hP.sub [0] rfl) (hD.sub [0] (by decide) rfl) hS ls (lv_sub hl [1, 2, 0, 3] rfl) h
def wp_J7_fill_53178 (w1 : Nat → Int32) (a2 : Int32) (n1 : Nat) (post : (Nat → Int32) → Prop) : Prop := ∀ x3_1 : Int32, x3_1 = Int32.ofNat n1 → (∃ n5 : Nat, lp_J7_fill_53178_5 a2 x3_1 n1 n5 w1 0 (fun (w1_6 : Nat → Int32) => post w1_6))
set_option maxHeartbeats 4000000 in
set_option maxRecDepth 100000 in
theorem c_J7_fill_53178 (l : Launch) (D : va_G) (cI cJ cZ cO : ClassId) (q1 : Nat) (w1 : Nat → Int32) (a2 : Int32) (n1 : Nat) (post : (Nat → Int32) → Prop) (hw : wp_J7_fill_53178 w1 a2 n1 post) : gb_Cv D cI cJ cZ cO l yJ7_fill_53178 wsJ7_fill_53178 ({ frames := 0, cells := 0, slots := 0, locals := 0 }) [.ref q1, .int a2] [(q1, .inl (cI, n1, .inl w1))] (fun u : (Nat → Int32) => post u) (fun u : (Nat → Int32) => [(q1, .inl (cI, n1, .inl u))]) 0 0 := by
  refine gb_mv (cc := cJ7_fill_53178) (maxL := 4) (ret := none) (by decide) rfl (Nat.le_of_ble_eq_true rfl) ?_
  · intro p e s m below meth c A C hP hD hS ls hl
    obtain ⟨hx, hb, hr, hml, hown, hts, hlocks, hnm, hK, hA⟩ := id C
    replace hown : s.vm.findClass RJ7 = some m.cls := hown
    have h := hw
    unfold wp_J7_fill_53178 at h
    replace hl : lv_has ls 4 [(0, .ref q1), (1, .int a2)] := hl
    refine lv_iconst (v := 0) hx hb dJ7_fill_53178_0 (by decide) ?_
    refine lv_istore_n (lv' := [(2, .int 0), (0, .ref q1), (1, .int a2)]) hx hb dJ7_fill_53178_1 rfl hl (by decide) rfl (fun ls hl => ?_)
    refine lv_aload_n hx hb dJ7_fill_53178_2 rfl (lv_at hl 1 rfl) ?_
    refine va_alen hx hb hK.1 hP 0 0 rfl rfl (v := Int32.ofNat n1) rfl dJ7_fill_53178_3 ?_
    refine lv_topi (fun x3_1 ex3_1 => ?_)
    replace h := h x3_1 ex3_1
    refine lv_istore_n (lv' := [(3, .int x3_1), (2, .int 0), (0, .ref q1), (1, .int a2)]) hx hb dJ7_fill_53178_4 rfl hl (by decide) rfl (fun ls hl => ?_)
    obtain ⟨n5, h⟩ := h
    refine ml_J7_fill_53178_5 q1 a2 n1 a2 x3_1 C post _ ?_ n5 w1 0 _ _ (hP.sub [0] rfl) (hD.sub [0] (by decide) rfl) hS ls (lv_sub hl [2, 3, 1, 0] rfl) h
    intro w1_6 H locs hP hD hS ls hl h
    exact gb_retv C (w1_6) (hP.sub [0] rfl) (hD.sub [0] (by decide) rfl) hS h dJ7_fill_53178_20
/-! OrderKeeper$Net.isTask(I)Z -/
theorem in_X2_isTask_X2 : ∀ w ∈ wsX20, w ∈ wsX2_isTask := fun _ h => List.mem_cons_of_mem _ (List.mem_append_right _ h)
theorem hdS_X2_isTask : yX2_isTask.cls ≠ "java/lang/invoke/MethodHandle" ∧ yX2_isTask.cls ≠ "java/lang/invoke/VarHandle" ∧ (parseMethodDescriptor yX2_isTask.desc).map (fun d => d.parameters.length) = some 1 := by decide +kernel
theorem hdV_X2_isTask : yX2_isTask.cls = RX2 ∧ yX2_isTask.cls ≠ "java/lang/invoke/MethodHandle" ∧ yX2_isTask.cls ≠ "java/lang/invoke/VarHandle" ∧ (parseMethodDescriptor yX2_isTask.desc).map (fun d => d.parameters.length) = some 1 := ⟨rfl, hdS_X2_isTask⟩
def wp_X2_isTask (v_tasks : Int32) (a1 : Int32) (post : Int32 → Prop) : Prop := ((a1 < 0 → post 0) ∧ (¬ (a1 < 0) → ((v_tasks ≤ a1 → post 0) ∧ (¬ (v_tasks ≤ a1) → post 1))))
set_option maxHeartbeats 4000000 in
set_option maxRecDepth 100000 in
theorem c_X2_isTask (l : Launch) (D : va_G) (cI cJ cZ cO : ClassId) (o : Nat) (o_weight : Nat) (o_after : Nat) (o_before : Nat) (o_placeOf : Nat) (o_taskAt : Nat) (v_tasks : Int32) (v_ties : Int32) (a1 : Int32) (post : Int32 → Prop) (hw : wp_X2_isTask v_tasks a1 post) : gb_Ci D cI cJ cZ cO l yX2_isTask wsX2_isTask ({ frames := 0, cells := 0, slots := 0, locals := 0 }) [.ref o, .int a1] [(o, .inr (2, [.ref o_weight, .ref o_after, .ref o_before, .ref o_placeOf, .ref o_taskAt, .int v_tasks, .int v_ties]))] (fun (r : Int32) (_ : Unit) => post r ) (fun _ : Unit => [(o, .inr (2, [.ref o_weight, .ref o_after, .ref o_before, .ref o_placeOf, .ref o_taskAt, .int v_tasks, .int v_ties]))]) 0 0 := by
  refine gb_mi (cc := cX2_isTask) (maxL := 2) (ret := (some .boolean)) (by decide) rfl (Nat.le_of_ble_eq_true rfl) ?_
  · intro p e s m below meth c A C hP hD hS ls hl
    obtain ⟨hx, hb, hr, hml, hown, hts, hlocks, hnm, hK, hA⟩ := id C
    replace hown : s.vm.findClass RX2 = some m.cls := hown
    have h := hw
    unfold wp_X2_isTask at h
    replace hl : lv_has ls 2 [(0, .ref o), (1, .int a1)] := hl
    refine lv_iload_n hx hb dX2_isTask_0 rfl (lv_at hl 1 rfl) ?_
    refine lv_if_lt (tgt := 16) hx hb dX2_isTask_1 (by decide) (fun c1 => ?_) (fun c1 => ?_)
    · replace h := h.1 c1
      refine lv_iconst (v := 0) hx hb dX2_isTask_16 (by decide) ?_
      exact gb_retz C () (hP.sub [0] rfl) (hD.sub [0] (by decide) rfl) hS (by decide) h dX2_isTask_17
    · replace h := h.2 c1
      refine lv_iload_n hx hb dX2_isTask_4 rfl (lv_at hl 1 rfl) ?_
      refine lv_aload_n hx hb dX2_isTask_5 rfl (lv_at hl 0 rfl) ?_
      refine va_get (D := D) (ci := 2) (v := .int v_tasks) (C := RX2) (T := TX2) (N := 7) hx hb hts in_X2_isTask_X2 hown hK.1 hP 0 rfl rfl 5 (by decide) (hts (.fieldLink RX2 34 "OrderKeeper$Net" "tasks" "I") (List.mem_of_getElem? (i := 1) rfl)) (fun _ h9 => h9) rfl dX2_isTask_6 ?_
      refine lv_icmp_ge (tgt := 16) hx hb dX2_isTask_9 (by decide) (fun c2 => ?_) (fun c2 => ?_)
      · replace h := h.1 c2
        refine lv_iconst (v := 0) hx hb dX2_isTask_16 (by decide) ?_
        exact gb_retz C () (hP.sub [0] rfl) (hD.sub [0] (by decide) rfl) hS (by decide) h dX2_isTask_17
      · replace h := h.2 c2
        refine lv_iconst (v := 1) hx hb dX2_isTask_12 (by decide) ?_
        refine lv_goto (tgt := 17) hx hb dX2_isTask_13 (by decide) ?_
        exact gb_retz C () (hP.sub [0] rfl) (hD.sub [0] (by decide) rfl) hS (by decide) h dX2_isTask_17
/-! OrderKeeper$Net.areTasks(II)Z -/
theorem hdS_X2_areTasks : yX2_areTasks.cls ≠ "java/lang/invoke/MethodHandle" ∧ yX2_areTasks.cls ≠ "java/lang/invoke/VarHandle" ∧ (parseMethodDescriptor yX2_areTasks.desc).map (fun d => d.parameters.length) = some 2 := by decide +kernel
theorem hdV_X2_areTasks : yX2_areTasks.cls = RX2 ∧ yX2_areTasks.cls ≠ "java/lang/invoke/MethodHandle" ∧ yX2_areTasks.cls ≠ "java/lang/invoke/VarHandle" ∧ (parseMethodDescriptor yX2_areTasks.desc).map (fun d => d.parameters.length) = some 2 := ⟨rfl, hdS_X2_areTasks⟩
theorem cw_X2_areTasks_41 {R : Room} {s : State} {args : Array Value} (hts : ∀ w ∈ wsX2_areTasks, w.before args s = true) (hR : 0 + 1 ≤ R.frames ∧ 8 + (2 + 11) + 0 ≤ R.locals) : CallW R s args RX2 RX2 41 yX2_isTask cX2_isTask 2 (some .boolean) wsX2_isTask ({ frames := 0, cells := 0, slots := 0, locals := 0 }) 0 0 1 := cwV 1 hts gX2_areTasks_X2_isTask rfl rfl rfl hdV_X2_isTask hR
def wp_X2_areTasks (v_tasks : Int32) (a1 : Int32) (a2 : Int32) (post : Int32 → Prop) : Prop := wp_X2_isTask v_tasks a1 (fun (r_1 : Int32) => ((r_1 = 0 → post 0) ∧ (¬ (r_1 = 0) → wp_X2_isTask v_tasks a2 (fun (r_3 : Int32) => ((r_3 = 0 → post 0) ∧ (¬ (r_3 = 0) → post 1))))))
set_option maxHeartbeats 4000000 in
set_option maxRecDepth 100000 in
theorem c_X2_areTasks (l : Launch) (D : va_G) (cI cJ cZ cO : ClassId) (o : Nat) (o_weight : Nat) (o_after : Nat) (o_before : Nat) (o_placeOf : Nat) (o_taskAt : Nat) (v_tasks : Int32) (v_ties : Int32) (a1 : Int32) (a2 : Int32) (post : Int32 → Prop) (hw : wp_X2_areTasks v_tasks a1 a2 post) : gb_Ci D cI cJ cZ cO l yX2_areTasks wsX2_areTasks ({ frames := 1, cells := 0, slots := 0, locals := 21 }) [.ref o, .int a1, .int a2] [(o, .inr (2, [.ref o_weight, .ref o_after, .ref o_before, .ref o_placeOf, .ref o_taskAt, .int v_tasks, .int v_ties]))] (fun (r : Int32) (_ : Unit) => post r ) (fun _ : Unit => [(o, .inr (2, [.ref o_weight, .ref o_after, .ref o_before, .ref o_placeOf, .ref o_taskAt, .int v_tasks, .int v_ties]))]) 0 0 := by
  refine gb_mi (cc := cX2_areTasks) (maxL := 3) (ret := (some .boolean)) (by decide) rfl (Nat.le_of_ble_eq_true rfl) ?_
  · intro p e s m below meth c A C hP hD hS ls hl
    obtain ⟨hx, hb, hr, hml, hown, hts, hlocks, hnm, hK, hA⟩ := id C
    replace hown : s.vm.findClass RX2 = some m.cls := hown
    have h := hw
    unfold wp_X2_areTasks at h
    replace hl : lv_has ls 3 [(0, .ref o), (1, .int a1), (2, .int a2)] := hl
    refine lv_aload_n hx hb dX2_areTasks_0 rfl (lv_at hl 0 rfl) ?_
    refine lv_iload_n hx hb dX2_areTasks_1 rfl (lv_at hl 1 rfl) ?_
    refine gb_ki (wc := [(o, .inr (2, [.ref o_weight, .ref o_after, .ref o_before, .ref o_placeOf, .ref o_taskAt, .int v_tasks, .int v_ties]))]) (wr := []) C hP hD hS [0] [] rfl rfl (by decide) (gb_rV (As := [.int a1]) (rest := []) C ((c_X2_isTask l D cI cJ cZ cO o o_weight o_after o_before o_placeOf o_taskAt v_tasks v_ties a1 _ h) _) rfl (cw_X2_areTasks_41 hts ⟨Nat.le_of_ble_eq_true rfl, Nat.le_of_ble_eq_true rfl⟩) (ci := 2) (q0 := 0) rfl rfl rfl rfl hl.1 rfl (Nat.le_of_ble_eq_true rfl) dX2_areTasks_2 ⟨Nat.zero_le _, Nat.zero_le _⟩) ?_
    rintro r_1 _ H locs h hP hD hS
    try dsimp only at h
    replace hP : va_P D vwCl [(o, .inr (2, [.ref o_weight, .ref o_after, .ref o_before, .ref o_placeOf, .ref o_taskAt, .int v_tasks, .int v_ties]))] H := hP
    replace hD : va_D A [(o, .inr (2, [.ref o_weight, .ref o_after, .ref o_before, .ref o_placeOf, .ref o_taskAt, .int v_tasks, .int v_ties]))] := hD
    refine lv_if_eq (tgt := 20) hx hb dX2_areTasks_5 (by decide) (fun c2 => ?_) (fun c2 => ?_)
    · replace h := h.1 c2
      refine lv_iconst (v := 0) hx hb dX2_areTasks_20 (by decide) ?_
      exact gb_retz C () (hP.sub [0] rfl) (hD.sub [0] (by decide) rfl) hS (by decide) h dX2_areTasks_21
    · replace h := h.2 c2
      refine lv_aload_n hx hb dX2_areTasks_8 rfl (lv_at hl 0 rfl) ?_
      refine lv_iload_n hx hb dX2_areTasks_9 rfl (lv_at hl 2 rfl) ?_
      refine gb_ki (wc := [(o, .inr (2, [.ref o_weight, .ref o_after, .ref o_before, .ref o_placeOf, .ref o_taskAt, .int v_tasks, .int v_ties]))]) (wr := []) C hP hD hS [0] [] rfl rfl (by decide) (gb_rV (As := [.int a2]) (rest := []) C ((c_X2_isTask l D cI cJ cZ cO o o_weight o_after o_before o_placeOf o_taskAt v_tasks v_ties a2 _ h) _) rfl (cw_X2_areTasks_41 hts ⟨Nat.le_of_ble_eq_true rfl, Nat.le_of_ble_eq_true rfl⟩) (ci := 2) (q0 := 0) rfl rfl rfl rfl hl.1 rfl (Nat.le_of_ble_eq_true rfl) dX2_areTasks_10 ⟨Nat.zero_le _, Nat.zero_le _⟩) ?_
      rintro r_3 _ H locs h hP hD hS
      try dsimp only at h
      replace hP : va_P D vwCl [(o, .inr (2, [.ref o_weight, .ref o_after, .ref o_before, .ref o_placeOf, .ref o_taskAt, .int v_tasks, .int v_ties]))] H := hP
      replace hD : va_D A [(o, .inr (2, [.ref o_weight, .ref o_after, .ref o_before, .ref o_placeOf, .ref o_taskAt, .int v_tasks, .int v_ties]))] := hD
      refine lv_if_eq (tgt := 20) hx hb dX2_areTasks_13 (by decide) (fun c4 => ?_) (fun c4 => ?_)
      · replace h := h.1 c4
        refine lv_iconst (v := 0) hx hb dX2_areTasks_20 (by decide) ?_
        exact gb_retz C () (hP.sub [0] rfl) (hD.sub [0] (by decide) rfl) hS (by decide) h dX2_areTasks_21
      · replace h := h.2 c4
        refine lv_iconst (v := 1) hx hb dX2_areTasks_16 (by decide) ?_
        refine lv_goto (tgt := 21) hx hb dX2_areTasks_17 (by decide) ?_
        exact gb_retz C () (hP.sub [0] rfl) (hD.sub [0] (by decide) rfl) hS (by decide) h dX2_areTasks_21
/-! OrderKeeper$Net.hasTie(II)Z -/
theorem in_X2_hasTie_X2 : ∀ w ∈ wsX20, w ∈ wsX2_hasTie := fun _ h => List.mem_cons_of_mem _ (List.mem_append_right _ h)
theorem hdS_X2_hasTie : yX2_hasTie.cls ≠ "java/lang/invoke/MethodHandle" ∧ yX2_hasTie.cls ≠ "java/lang/invoke/VarHandle" ∧ (parseMethodDescriptor yX2_hasTie.desc).map (fun d => d.parameters.length) = some 2 := by decide +kernel
theorem hdV_X2_hasTie : yX2_hasTie.cls = RX2 ∧ yX2_hasTie.cls ≠ "java/lang/invoke/MethodHandle" ∧ yX2_hasTie.cls ≠ "java/lang/invoke/VarHandle" ∧ (parseMethodDescriptor yX2_hasTie.desc).map (fun d => d.parameters.length) = some 2 := ⟨rfl, hdS_X2_hasTie⟩
theorem cw_X2_hasTie_45 {R : Room} {s : State} {args : Array Value} (hts : ∀ w ∈ wsX2_hasTie, w.before args s = true) (hN : gb_N s) (hR : 0 + 1 ≤ R.frames ∧ 8 + (3 + 11) + 0 ≤ R.locals) : va_CN R s args RX2 45 yX7_has "OrderKeeper" cX7_has 3 (some .boolean) wsX7_has ({ frames := 0, cells := 0, slots := 0, locals := 0 }) 0 0 2 ∧ (Cond.static yX7_has).before args s = true ∧ True := ⟨va_cnB 2 hts gX2_hasTie_X7_has_n45 rfl rfl rfl (hN.1 (RX2, 45, yX7_has, "OrderKeeper") (List.mem_of_getElem? (i := 8) rfl)) (hts (.initialized RX7) (List.mem_of_getElem? (i := 3) rfl)) hdS_X7_has hR, (hts (.static yX7_has) (List.mem_of_getElem? (i := 2) rfl)), trivial⟩
def wp_X2_hasTie (v_after : Nat → Int64) (a1 : Int32) (a2 : Int32) (post : Int32 → Prop) : Prop := vp_in a1 60 ∧ wp_X7_has (v_after a1.toNatClampNeg) a2 (fun (r_2 : Int32) => (r_2 = 0 ∨ r_2 = 1) ∧ post r_2)
set_option maxHeartbeats 4000000 in
set_option maxRecDepth 100000 in
theorem c_X2_hasTie (l : Launch) (D : va_G) (cI cJ cZ cO : ClassId) (o : Nat) (o_weight : Nat) (o_after : Nat) (o_before : Nat) (o_placeOf : Nat) (o_taskAt : Nat) (v_tasks : Int32) (v_ties : Int32) (v_after : Nat → Int64) (a1 : Int32) (a2 : Int32) (post : Int32 → Prop) (hw : wp_X2_hasTie v_after a1 a2 post) : gb_Ci D cI cJ cZ cO l yX2_hasTie wsX2_hasTie ({ frames := 1, cells := 0, slots := 0, locals := 22 }) [.ref o, .int a1, .int a2] [(o, .inr (2, [.ref o_weight, .ref o_after, .ref o_before, .ref o_placeOf, .ref o_taskAt, .int v_tasks, .int v_ties])), (o_after, .inl (cJ, 60, .inr (.inl v_after)))] (fun (r : Int32) (_ : Unit) => post r ) (fun _ : Unit => [(o, .inr (2, [.ref o_weight, .ref o_after, .ref o_before, .ref o_placeOf, .ref o_taskAt, .int v_tasks, .int v_ties])), (o_after, .inl (cJ, 60, .inr (.inl v_after)))]) 0 0 := by
  refine gb_mi (cc := cX2_hasTie) (maxL := 3) (ret := (some .boolean)) (by decide) rfl (Nat.le_of_ble_eq_true rfl) ?_
  · intro p e s m below meth c A C hP hD hS ls hl
    obtain ⟨hx, hb, hr, hml, hown, hts, hlocks, hnm, hK, hA⟩ := id C
    replace hown : s.vm.findClass RX2 = some m.cls := hown
    have h := hw
    unfold wp_X2_hasTie at h
    replace hl : lv_has ls 3 [(0, .ref o), (1, .int a1), (2, .int a2)] := hl
    refine lv_aload_n hx hb dX2_hasTie_0 rfl (lv_at hl 0 rfl) ?_
    refine va_get (D := D) (ci := 2) (v := .ref o_after) (C := RX2) (T := TX2) (N := 7) hx hb hts in_X2_hasTie_X2 hown hK.1 hP 0 rfl rfl 1 (by decide) (hts (.fieldLink RX2 15 "OrderKeeper$Net" "after" "[J") (List.mem_of_getElem? (i := 1) rfl)) (fun _ h9 => h9) rfl dX2_hasTie_1 ?_
    refine lv_iload_n hx hb dX2_hasTie_4 rfl (lv_at hl 1 rfl) ?_
    obtain ⟨hi1, h⟩ := h
    refine va_lald hx hb hK.1 hP 1 1 rfl rfl hi1 dX2_hasTie_5 ?_
    refine lv_iload_n hx hb dX2_hasTie_6 rfl (lv_at hl 2 rfl) ?_
    refine gb_ki (wc := []) (wr := [(o, .inr (2, [.ref o_weight, .ref o_after, .ref o_before, .ref o_placeOf, .ref o_taskAt, .int v_tasks, .int v_ties])), (o_after, .inl (cJ, 60, .inr (.inl v_after)))]) C hP hD hS [] [0, 1] rfl rfl (by decide) (gb_rSN (As := [.long (v_after a1.toNatClampNeg), .int a2]) (rest := []) C ((c_X7_has l D cI cJ cZ cO (v_after a1.toNatClampNeg) a2 _ h) _) rfl (cw_X2_hasTie_45 hts hK.2 ⟨Nat.le_of_ble_eq_true rfl, Nat.le_of_ble_eq_true rfl⟩) rfl hl.1 rfl (Nat.le_of_ble_eq_true rfl) dX2_hasTie_7 ⟨Nat.zero_le _, Nat.zero_le _⟩) ?_
    rintro r_2 _ H locs h hP hD hS
    try dsimp only at h
    replace hP : va_P D vwCl [(o, .inr (2, [.ref o_weight, .ref o_after, .ref o_before, .ref o_placeOf, .ref o_taskAt, .int v_tasks, .int v_ties])), (o_after, .inl (cJ, 60, .inr (.inl v_after)))] H := hP
    replace hD : va_D A [(o, .inr (2, [.ref o_weight, .ref o_after, .ref o_before, .ref o_placeOf, .ref o_taskAt, .int v_tasks, .int v_ties])), (o_after, .inl (cJ, 60, .inr (.inl v_after)))] := hD
    exact gb_retz C () (hP.sub [0, 1] rfl) (hD.sub [0, 1] (by decide) rfl) hS h.1 h.2 dX2_hasTie_10
/-! OrderKeeper$Net.addTask(I)I -/
theorem in_X2_addTask_X2 : ∀ w ∈ wsX20, w ∈ wsX2_addTask := fun _ h => List.mem_cons_of_mem _ (List.mem_append_right _ h)
theorem hdS_X2_addTask : yX2_addTask.cls ≠ "java/lang/invoke/MethodHandle" ∧ yX2_addTask.cls ≠ "java/lang/invoke/VarHandle" ∧ (parseMethodDescriptor yX2_addTask.desc).map (fun d => d.parameters.length) = some 1 := by decide +kernel
theorem hdV_X2_addTask : yX2_addTask.cls = RX2 ∧ yX2_addTask.cls ≠ "java/lang/invoke/MethodHandle" ∧ yX2_addTask.cls ≠ "java/lang/invoke/VarHandle" ∧ (parseMethodDescriptor yX2_addTask.desc).map (fun d => d.parameters.length) = some 1 := ⟨rfl, hdS_X2_addTask⟩
def wp_X2_addTask (v_tasks : Int32) (v_weight : Nat → Int32) (v_placeOf : Nat → Int32) (v_taskAt : Nat → Int32) (a1 : Int32) (post : Int32 → (Int32) → (Nat → Int32) → (Nat → Int32) → (Nat → Int32) → Prop) : Prop := vp_in v_tasks 60 ∧ ∀ v_weight_2 : Nat → Int32, v_weight_2 = upd v_weight v_tasks.toNatClampNeg a1 → vp_in v_tasks 60 ∧ ∀ v_placeOf_4 : Nat → Int32, v_placeOf_4 = upd v_placeOf v_tasks.toNatClampNeg v_tasks → vp_in v_tasks 60 ∧ ∀ v_taskAt_6 : Nat → Int32, v_taskAt_6 = upd v_taskAt v_tasks.toNatClampNeg v_tasks → ∀ v_tasks_7 : Int32, v_tasks_7 = v_tasks + 1 → post v_tasks v_tasks_7 v_weight_2 v_placeOf_4 v_taskAt_6
set_option maxHeartbeats 4000000 in
set_option maxRecDepth 100000 in
theorem c_X2_addTask (l : Launch) (D : va_G) (cI cJ cZ cO : ClassId) (o : Nat) (o_weight : Nat) (o_after : Nat) (o_before : Nat) (o_placeOf : Nat) (o_taskAt : Nat) (v_tasks : Int32) (v_ties : Int32) (v_weight : Nat → Int32) (v_placeOf : Nat → Int32) (v_taskAt : Nat → Int32) (a1 : Int32) (post : Int32 → (Int32) → (Nat → Int32) → (Nat → Int32) → (Nat → Int32) → Prop) (hw : wp_X2_addTask v_tasks v_weight v_placeOf v_taskAt a1 post) : gb_Ci D cI cJ cZ cO l yX2_addTask wsX2_addTask ({ frames := 0, cells := 0, slots := 0, locals := 0 }) [.ref o, .int a1] [(o, .inr (2, [.ref o_weight, .ref o_after, .ref o_before, .ref o_placeOf, .ref o_taskAt, .int v_tasks, .int v_ties])), (o_weight, .inl (cI, 60, .inl v_weight)), (o_placeOf, .inl (cI, 60, .inl v_placeOf)), (o_taskAt, .inl (cI, 60, .inl v_taskAt))] (fun (r : Int32) (u : (Int32) × (Nat → Int32) × (Nat → Int32) × (Nat → Int32)) => post r u.1 u.2.1 u.2.2.1 u.2.2.2) (fun u : (Int32) × (Nat → Int32) × (Nat → Int32) × (Nat → Int32) => [(o, .inr (2, [.ref o_weight, .ref o_after, .ref o_before, .ref o_placeOf, .ref o_taskAt, .int u.1, .int v_ties])), (o_weight, .inl (cI, 60, .inl u.2.1)), (o_placeOf, .inl (cI, 60, .inl u.2.2.1)), (o_taskAt, .inl (cI, 60, .inl u.2.2.2))]) 0 0 := by
  refine gb_mi (cc := cX2_addTask) (maxL := 3) (ret := (some .int)) (by decide) rfl (Nat.le_of_ble_eq_true rfl) ?_
  · intro p e s m below meth c A C hP hD hS ls hl
    obtain ⟨hx, hb, hr, hml, hown, hts, hlocks, hnm, hK, hA⟩ := id C
    replace hown : s.vm.findClass RX2 = some m.cls := hown
    have h := hw
    unfold wp_X2_addTask at h
    replace hl : lv_has ls 3 [(0, .ref o), (1, .int a1)] := hl
    refine lv_aload_n hx hb dX2_addTask_0 rfl (lv_at hl 0 rfl) ?_
    refine va_get (D := D) (ci := 2) (v := .int v_tasks) (C := RX2) (T := TX2) (N := 7) hx hb hts in_X2_addTask_X2 hown hK.1 hP 0 rfl rfl 5 (by decide) (hts (.fieldLink RX2 34 "OrderKeeper$Net" "tasks" "I") (List.mem_of_getElem? (i := 1) rfl)) (fun _ h9 => h9) rfl dX2_addTask_1 ?_
    refine lv_istore_n (lv' := [(2, .int v_tasks), (0, .ref o), (1, .int a1)]) hx hb dX2_addTask_4 rfl hl (by decide) rfl (fun ls hl => ?_)
    refine lv_aload_n hx hb dX2_addTask_5 rfl (lv_at hl 1 rfl) ?_
    refine va_get (D := D) (ci := 2) (v := .ref o_weight) (C := RX2) (T := TX2) (N := 7) hx hb hts in_X2_addTask_X2 hown hK.1 hP 0 rfl rfl 0 (by decide) (hts (.fieldLink RX2 9 "OrderKeeper$Net" "weight" "[I") (List.mem_of_getElem? (i := 2) rfl)) (fun _ h9 => h9) rfl dX2_addTask_6 ?_
    refine lv_iload_n hx hb dX2_addTask_9 rfl (lv_at hl 0 rfl) ?_
    refine lv_iload_n hx hb dX2_addTask_10 rfl (lv_at hl 2 rfl) ?_
    obtain ⟨hi1, h⟩ := h
    obtain ⟨v_weight_2, ev_weight_2⟩ : ∃ z : Nat → Int32, z = upd v_weight v_tasks.toNatClampNeg a1 := ⟨_, rfl⟩
    refine va_iast hx hb hK.1 hP hD hS 1 0 rfl rfl hi1 dX2_addTask_11 (fun H locs hP hD hS => ?_)
    replace hP : va_P D vwCl [(o, .inr (2, [.ref o_weight, .ref o_after, .ref o_before, .ref o_placeOf, .ref o_taskAt, .int v_tasks, .int v_ties])), (o_weight, .inl (cI, 60, .inl v_weight_2)), (o_placeOf, .inl (cI, 60, .inl v_placeOf)), (o_taskAt, .inl (cI, 60, .inl v_taskAt))] H := by rw [ev_weight_2]; exact hP
    replace hD : va_D A [(o, .inr (2, [.ref o_weight, .ref o_after, .ref o_before, .ref o_placeOf, .ref o_taskAt, .int v_tasks, .int v_ties])), (o_weight, .inl (cI, 60, .inl v_weight_2)), (o_placeOf, .inl (cI, 60, .inl v_placeOf)), (o_taskAt, .inl (cI, 60, .inl v_taskAt))] := by rw [ev_weight_2]; exact hD
    replace h := h v_weight_2 ev_weight_2
    refine lv_aload_n hx hb dX2_addTask_12 rfl (lv_at hl 1 rfl) ?_
    refine va_get (D := D) (ci := 2) (v := .ref o_placeOf) (C := RX2) (T := TX2) (N := 7) hx hb hts in_X2_addTask_X2 hown hK.1 hP 0 rfl rfl 3 (by decide) (hts (.fieldLink RX2 22 "OrderKeeper$Net" "placeOf" "[I") (List.mem_of_getElem? (i := 3) rfl)) (fun _ h9 => h9) rfl dX2_addTask_13 ?_
    refine lv_iload_n hx hb dX2_addTask_16 rfl (lv_at hl 0 rfl) ?_
    refine lv_iload_n hx hb dX2_addTask_17 rfl (lv_at hl 0 rfl) ?_
    obtain ⟨hi3, h⟩ := h
    obtain ⟨v_placeOf_4, ev_placeOf_4⟩ : ∃ z : Nat → Int32, z = upd v_placeOf v_tasks.toNatClampNeg v_tasks := ⟨_, rfl⟩
    refine va_iast hx hb hK.1 hP hD hS 2 0 rfl rfl hi3 dX2_addTask_18 (fun H locs hP hD hS => ?_)
    replace hP : va_P D vwCl [(o, .inr (2, [.ref o_weight, .ref o_after, .ref o_before, .ref o_placeOf, .ref o_taskAt, .int v_tasks, .int v_ties])), (o_weight, .inl (cI, 60, .inl v_weight_2)), (o_placeOf, .inl (cI, 60, .inl v_placeOf_4)), (o_taskAt, .inl (cI, 60, .inl v_taskAt))] H := by rw [ev_placeOf_4]; exact hP
    replace hD : va_D A [(o, .inr (2, [.ref o_weight, .ref o_after, .ref o_before, .ref o_placeOf, .ref o_taskAt, .int v_tasks, .int v_ties])), (o_weight, .inl (cI, 60, .inl v_weight_2)), (o_placeOf, .inl (cI, 60, .inl v_placeOf_4)), (o_taskAt, .inl (cI, 60, .inl v_taskAt))] := by rw [ev_placeOf_4]; exact hD
    replace h := h v_placeOf_4 ev_placeOf_4
    refine lv_aload_n hx hb dX2_addTask_19 rfl (lv_at hl 1 rfl) ?_
    refine va_get (D := D) (ci := 2) (v := .ref o_taskAt) (C := RX2) (T := TX2) (N := 7) hx hb hts in_X2_addTask_X2 hown hK.1 hP 0 rfl rfl 4 (by decide) (hts (.fieldLink RX2 25 "OrderKeeper$Net" "taskAt" "[I") (List.mem_of_getElem? (i := 4) rfl)) (fun _ h9 => h9) rfl dX2_addTask_20 ?_
    refine lv_iload_n hx hb dX2_addTask_23 rfl (lv_at hl 0 rfl) ?_
    refine lv_iload_n hx hb dX2_addTask_24 rfl (lv_at hl 0 rfl) ?_
    obtain ⟨hi5, h⟩ := h
    obtain ⟨v_taskAt_6, ev_taskAt_6⟩ : ∃ z : Nat → Int32, z = upd v_taskAt v_tasks.toNatClampNeg v_tasks := ⟨_, rfl⟩
    refine va_iast hx hb hK.1 hP hD hS 3 0 rfl rfl hi5 dX2_addTask_25 (fun H locs hP hD hS => ?_)
    replace hP : va_P D vwCl [(o, .inr (2, [.ref o_weight, .ref o_after, .ref o_before, .ref o_placeOf, .ref o_taskAt, .int v_tasks, .int v_ties])), (o_weight, .inl (cI, 60, .inl v_weight_2)), (o_placeOf, .inl (cI, 60, .inl v_placeOf_4)), (o_taskAt, .inl (cI, 60, .inl v_taskAt_6))] H := by rw [ev_taskAt_6]; exact hP
    replace hD : va_D A [(o, .inr (2, [.ref o_weight, .ref o_after, .ref o_before, .ref o_placeOf, .ref o_taskAt, .int v_tasks, .int v_ties])), (o_weight, .inl (cI, 60, .inl v_weight_2)), (o_placeOf, .inl (cI, 60, .inl v_placeOf_4)), (o_taskAt, .inl (cI, 60, .inl v_taskAt_6))] := by rw [ev_taskAt_6]; exact hD
    replace h := h v_taskAt_6 ev_taskAt_6
    refine lv_aload_n hx hb dX2_addTask_26 rfl (lv_at hl 1 rfl) ?_
    refine lv_dup hx hb dX2_addTask_27 rfl ?_
    refine va_get (D := D) (ci := 2) (v := .int v_tasks) (C := RX2) (T := TX2) (N := 7) hx hb hts in_X2_addTask_X2 hown hK.1 hP 0 rfl rfl 5 (by decide) (hts (.fieldLink RX2 34 "OrderKeeper$Net" "tasks" "I") (List.mem_of_getElem? (i := 1) rfl)) (fun _ h9 => h9) rfl dX2_addTask_28 ?_
    refine lv_iconst (v := 1) hx hb dX2_addTask_31 (by decide) ?_
    refine lv_iadd hx hb dX2_addTask_32 ?_
    refine lv_topi (fun v_tasks_7 ev_tasks_7 => ?_)
    replace h := h v_tasks_7 ev_tasks_7
    refine va_put (D := D) (ci := 2) (v := .int v_tasks_7) (ty := .int) (C := RX2) (T := TX2) (N := 7) hx hb hts in_X2_addTask_X2 tyX2 tyX2_ok nmX2 hown hK.1 hP hD hS 0 rfl rfl 5 (by decide) (hts (.fieldLink RX2 34 "OrderKeeper$Net" "tasks" "I") (List.mem_of_getElem? (i := 1) rfl)) (fun _ h9 => h9) rfl (tyX2_ok 5 (by decide)) rfl rfl (Nat.le_of_ble_eq_true rfl) dX2_addTask_33 (fun H locs hP hD hS => ?_)
    replace hP : va_P D vwCl [(o, .inr (2, [.ref o_weight, .ref o_after, .ref o_before, .ref o_placeOf, .ref o_taskAt, .int v_tasks_7, .int v_ties])), (o_weight, .inl (cI, 60, .inl v_weight_2)), (o_placeOf, .inl (cI, 60, .inl v_placeOf_4)), (o_taskAt, .inl (cI, 60, .inl v_taskAt_6))] H := hP
    replace hD : va_D A [(o, .inr (2, [.ref o_weight, .ref o_after, .ref o_before, .ref o_placeOf, .ref o_taskAt, .int v_tasks_7, .int v_ties])), (o_weight, .inl (cI, 60, .inl v_weight_2)), (o_placeOf, .inl (cI, 60, .inl v_placeOf_4)), (o_taskAt, .inl (cI, 60, .inl v_taskAt_6))] := hD
    refine lv_iload_n hx hb dX2_addTask_36 rfl (lv_at hl 0 rfl) ?_
    exact gb_reti C (v_tasks_7, v_weight_2, v_placeOf_4, v_taskAt_6) (hP.sub [0, 1, 2, 3] rfl) (hD.sub [0, 1, 2, 3] (by decide) rfl) hS h dX2_addTask_37
/-! OrderKeeper$Net.putTie(II)V -/
theorem in_X2_putTie_X2 : ∀ w ∈ wsX20, w ∈ wsX2_putTie := fun _ h => List.mem_cons_of_mem _ (List.mem_append_right _ h)
theorem hdS_X2_putTie : yX2_putTie.cls ≠ "java/lang/invoke/MethodHandle" ∧ yX2_putTie.cls ≠ "java/lang/invoke/VarHandle" ∧ (parseMethodDescriptor yX2_putTie.desc).map (fun d => d.parameters.length) = some 2 := by decide +kernel
theorem hdV_X2_putTie : yX2_putTie.cls = RX2 ∧ yX2_putTie.cls ≠ "java/lang/invoke/MethodHandle" ∧ yX2_putTie.cls ≠ "java/lang/invoke/VarHandle" ∧ (parseMethodDescriptor yX2_putTie.desc).map (fun d => d.parameters.length) = some 2 := ⟨rfl, hdS_X2_putTie⟩
theorem cw_X2_putTie_49 {R : Room} {s : State} {args : Array Value} (hts : ∀ w ∈ wsX2_putTie, w.before args s = true) (hN : gb_N s) (hR : 0 + 1 ≤ R.frames ∧ 8 + (1 + 11) + 0 ≤ R.locals) : va_CN R s args RX2 49 yX7_bit "OrderKeeper" cX7_bit 1 (some .long) wsX7_bit ({ frames := 0, cells := 0, slots := 0, locals := 0 }) 0 0 1 ∧ (Cond.static yX7_bit).before args s = true ∧ True := ⟨va_cnB 1 hts gX2_putTie_X7_bit_n49 rfl rfl rfl (hN.1 (RX2, 49, yX7_bit, "OrderKeeper") (List.mem_of_getElem? (i := 9) rfl)) (hts (.initialized RX7) (List.mem_of_getElem? (i := 5) rfl)) hdS_X7_bit hR, (hts (.static yX7_bit) (List.mem_of_getElem? (i := 4) rfl)), trivial⟩
def wp_X2_putTie (v_ties : Int32) (v_after : Nat → Int64) (v_before : Nat → Int64) (a1 : Int32) (a2 : Int32) (post : (Int32) → (Nat → Int64) → (Nat → Int64) → Prop) : Prop := vp_in a1 60 ∧ wp_X7_bit a2 (fun (r_2 : Int64) => vp_in a1 60 ∧ ∀ v_after_4 : Nat → Int64, v_after_4 = vp_updL v_after a1.toNatClampNeg ((v_after a1.toNatClampNeg) ||| r_2) → vp_in a2 60 ∧ wp_X7_bit a1 (fun (r_6 : Int64) => vp_in a2 60 ∧ ∀ v_before_8 : Nat → Int64, v_before_8 = vp_updL v_before a2.toNatClampNeg ((v_before a2.toNatClampNeg) ||| r_6) → ∀ v_ties_9 : Int32, v_ties_9 = v_ties + 1 → post v_ties_9 v_after_4 v_before_8))
set_option maxHeartbeats 4000000 in
set_option maxRecDepth 100000 in
theorem c_X2_putTie (l : Launch) (D : va_G) (cI cJ cZ cO : ClassId) (o : Nat) (o_weight : Nat) (o_after : Nat) (o_before : Nat) (o_placeOf : Nat) (o_taskAt : Nat) (v_tasks : Int32) (v_ties : Int32) (v_after : Nat → Int64) (v_before : Nat → Int64) (a1 : Int32) (a2 : Int32) (post : (Int32) → (Nat → Int64) → (Nat → Int64) → Prop) (hw : wp_X2_putTie v_ties v_after v_before a1 a2 post) : gb_Cv D cI cJ cZ cO l yX2_putTie wsX2_putTie ({ frames := 1, cells := 0, slots := 0, locals := 20 }) [.ref o, .int a1, .int a2] [(o, .inr (2, [.ref o_weight, .ref o_after, .ref o_before, .ref o_placeOf, .ref o_taskAt, .int v_tasks, .int v_ties])), (o_after, .inl (cJ, 60, .inr (.inl v_after))), (o_before, .inl (cJ, 60, .inr (.inl v_before)))] (fun u : (Int32) × (Nat → Int64) × (Nat → Int64) => post u.1 u.2.1 u.2.2) (fun u : (Int32) × (Nat → Int64) × (Nat → Int64) => [(o, .inr (2, [.ref o_weight, .ref o_after, .ref o_before, .ref o_placeOf, .ref o_taskAt, .int v_tasks, .int u.1])), (o_after, .inl (cJ, 60, .inr (.inl u.2.1))), (o_before, .inl (cJ, 60, .inr (.inl u.2.2)))]) 0 0 := by
  refine gb_mv (cc := cX2_putTie) (maxL := 3) (ret := none) (by decide) rfl (Nat.le_of_ble_eq_true rfl) ?_
  · intro p e s m below meth c A C hP hD hS ls hl
    obtain ⟨hx, hb, hr, hml, hown, hts, hlocks, hnm, hK, hA⟩ := id C
    replace hown : s.vm.findClass RX2 = some m.cls := hown
    have h := hw
    unfold wp_X2_putTie at h
    replace hl : lv_has ls 3 [(0, .ref o), (1, .int a1), (2, .int a2)] := hl
    refine lv_aload_n hx hb dX2_putTie_0 rfl (lv_at hl 0 rfl) ?_
    refine va_get (D := D) (ci := 2) (v := .ref o_after) (C := RX2) (T := TX2) (N := 7) hx hb hts in_X2_putTie_X2 hown hK.1 hP 0 rfl rfl 1 (by decide) (hts (.fieldLink RX2 15 "OrderKeeper$Net" "after" "[J") (List.mem_of_getElem? (i := 1) rfl)) (fun _ h9 => h9) rfl dX2_putTie_1 ?_
    refine lv_iload_n hx hb dX2_putTie_4 rfl (lv_at hl 1 rfl) ?_
    refine lv_dup2_11 hx hb dX2_putTie_5 rfl rfl ?_
    obtain ⟨hi1, h⟩ := h
    refine va_lald hx hb hK.1 hP 1 1 rfl rfl hi1 dX2_putTie_6 ?_
    refine lv_iload_n hx hb dX2_putTie_7 rfl (lv_at hl 2 rfl) ?_
    refine gb_kl (wc := []) (wr := [(o, .inr (2, [.ref o_weight, .ref o_after, .ref o_before, .ref o_placeOf, .ref o_taskAt, .int v_tasks, .int v_ties])), (o_after, .inl (cJ, 60, .inr (.inl v_after))), (o_before, .inl (cJ, 60, .inr (.inl v_before)))]) C hP hD hS [] [0, 1, 2] rfl rfl (by decide) (gb_rSN (As := [.int a2]) (rest := [.long (v_after a1.toNatClampNeg), .int a1, .ref o_after]) C ((c_X7_bit l D cI cJ cZ cO a2 _ h) _) rfl (cw_X2_putTie_49 hts hK.2 ⟨Nat.le_of_ble_eq_true rfl, Nat.le_of_ble_eq_true rfl⟩) rfl hl.1 rfl (Nat.le_of_ble_eq_true rfl) dX2_putTie_8 ⟨Nat.zero_le _, Nat.zero_le _⟩) ?_
    rintro r_2 _ H locs h hP hD hS
    try dsimp only at h
    replace hP : va_P D vwCl [(o, .inr (2, [.ref o_weight, .ref o_after, .ref o_before, .ref o_placeOf, .ref o_taskAt, .int v_tasks, .int v_ties])), (o_after, .inl (cJ, 60, .inr (.inl v_after))), (o_before, .inl (cJ, 60, .inr (.inl v_before)))] H := hP
    replace hD : va_D A [(o, .inr (2, [.ref o_weight, .ref o_after, .ref o_before, .ref o_placeOf, .ref o_taskAt, .int v_tasks, .int v_ties])), (o_after, .inl (cJ, 60, .inr (.inl v_after))), (o_before, .inl (cJ, 60, .inr (.inl v_before)))] := hD
    refine lv_lor hx hb dX2_putTie_11 ?_
    obtain ⟨hi3, h⟩ := h
    obtain ⟨v_after_4, ev_after_4⟩ : ∃ z : Nat → Int64, z = vp_updL v_after a1.toNatClampNeg ((v_after a1.toNatClampNeg) ||| r_2) := ⟨_, rfl⟩
    refine va_last hx hb hK.1 hP hD hS 1 1 rfl rfl hi3 dX2_putTie_12 (fun H locs hP hD hS => ?_)
    replace hP : va_P D vwCl [(o, .inr (2, [.ref o_weight, .ref o_after, .ref o_before, .ref o_placeOf, .ref o_taskAt, .int v_tasks, .int v_ties])), (o_after, .inl (cJ, 60, .inr (.inl v_after_4))), (o_before, .inl (cJ, 60, .inr (.inl v_before)))] H := by rw [ev_after_4]; exact hP
    replace hD : va_D A [(o, .inr (2, [.ref o_weight, .ref o_after, .ref o_before, .ref o_placeOf, .ref o_taskAt, .int v_tasks, .int v_ties])), (o_after, .inl (cJ, 60, .inr (.inl v_after_4))), (o_before, .inl (cJ, 60, .inr (.inl v_before)))] := by rw [ev_after_4]; exact hD
    replace h := h v_after_4 ev_after_4
    refine lv_aload_n hx hb dX2_putTie_13 rfl (lv_at hl 0 rfl) ?_
    refine va_get (D := D) (ci := 2) (v := .ref o_before) (C := RX2) (T := TX2) (N := 7) hx hb hts in_X2_putTie_X2 hown hK.1 hP 0 rfl rfl 2 (by decide) (hts (.fieldLink RX2 19 "OrderKeeper$Net" "before" "[J") (List.mem_of_getElem? (i := 2) rfl)) (fun _ h9 => h9) rfl dX2_putTie_14 ?_
    refine lv_iload_n hx hb dX2_putTie_17 rfl (lv_at hl 2 rfl) ?_
    refine lv_dup2_11 hx hb dX2_putTie_18 rfl rfl ?_
    obtain ⟨hi5, h⟩ := h
    refine va_lald hx hb hK.1 hP 2 1 rfl rfl hi5 dX2_putTie_19 ?_
    refine lv_iload_n hx hb dX2_putTie_20 rfl (lv_at hl 1 rfl) ?_
    refine gb_kl (wc := []) (wr := [(o, .inr (2, [.ref o_weight, .ref o_after, .ref o_before, .ref o_placeOf, .ref o_taskAt, .int v_tasks, .int v_ties])), (o_after, .inl (cJ, 60, .inr (.inl v_after_4))), (o_before, .inl (cJ, 60, .inr (.inl v_before)))]) C hP hD hS [] [0, 1, 2] rfl rfl (by decide) (gb_rSN (As := [.int a1]) (rest := [.long (v_before a2.toNatClampNeg), .int a2, .ref o_before]) C ((c_X7_bit l D cI cJ cZ cO a1 _ h) _) rfl (cw_X2_putTie_49 hts hK.2 ⟨Nat.le_of_ble_eq_true rfl, Nat.le_of_ble_eq_true rfl⟩) rfl hl.1 rfl (Nat.le_of_ble_eq_true rfl) dX2_putTie_21 ⟨Nat.zero_le _, Nat.zero_le _⟩) ?_
    rintro r_6 _ H locs h hP hD hS
    try dsimp only at h
    replace hP : va_P D vwCl [(o, .inr (2, [.ref o_weight, .ref o_after, .ref o_before, .ref o_placeOf, .ref o_taskAt, .int v_tasks, .int v_ties])), (o_after, .inl (cJ, 60, .inr (.inl v_after_4))), (o_before, .inl (cJ, 60, .inr (.inl v_before)))] H := hP
    replace hD : va_D A [(o, .inr (2, [.ref o_weight, .ref o_after, .ref o_before, .ref o_placeOf, .ref o_taskAt, .int v_tasks, .int v_ties])), (o_after, .inl (cJ, 60, .inr (.inl v_after_4))), (o_before, .inl (cJ, 60, .inr (.inl v_before)))] := hD
    refine lv_lor hx hb dX2_putTie_24 ?_
    obtain ⟨hi7, h⟩ := h
    obtain ⟨v_before_8, ev_before_8⟩ : ∃ z : Nat → Int64, z = vp_updL v_before a2.toNatClampNeg ((v_before a2.toNatClampNeg) ||| r_6) := ⟨_, rfl⟩
    refine va_last hx hb hK.1 hP hD hS 2 1 rfl rfl hi7 dX2_putTie_25 (fun H locs hP hD hS => ?_)
    replace hP : va_P D vwCl [(o, .inr (2, [.ref o_weight, .ref o_after, .ref o_before, .ref o_placeOf, .ref o_taskAt, .int v_tasks, .int v_ties])), (o_after, .inl (cJ, 60, .inr (.inl v_after_4))), (o_before, .inl (cJ, 60, .inr (.inl v_before_8)))] H := by rw [ev_before_8]; exact hP
    replace hD : va_D A [(o, .inr (2, [.ref o_weight, .ref o_after, .ref o_before, .ref o_placeOf, .ref o_taskAt, .int v_tasks, .int v_ties])), (o_after, .inl (cJ, 60, .inr (.inl v_after_4))), (o_before, .inl (cJ, 60, .inr (.inl v_before_8)))] := by rw [ev_before_8]; exact hD
    replace h := h v_before_8 ev_before_8
    refine lv_aload_n hx hb dX2_putTie_26 rfl (lv_at hl 0 rfl) ?_
    refine lv_dup hx hb dX2_putTie_27 rfl ?_
    refine va_get (D := D) (ci := 2) (v := .int v_ties) (C := RX2) (T := TX2) (N := 7) hx hb hts in_X2_putTie_X2 hown hK.1 hP 0 rfl rfl 6 (by decide) (hts (.fieldLink RX2 38 "OrderKeeper$Net" "ties" "I") (List.mem_of_getElem? (i := 3) rfl)) (fun _ h9 => h9) rfl dX2_putTie_28 ?_
    refine lv_iconst (v := 1) hx hb dX2_putTie_31 (by decide) ?_
    refine lv_iadd hx hb dX2_putTie_32 ?_
    refine lv_topi (fun v_ties_9 ev_ties_9 => ?_)
    replace h := h v_ties_9 ev_ties_9
    refine va_put (D := D) (ci := 2) (v := .int v_ties_9) (ty := .int) (C := RX2) (T := TX2) (N := 7) hx hb hts in_X2_putTie_X2 tyX2 tyX2_ok nmX2 hown hK.1 hP hD hS 0 rfl rfl 6 (by decide) (hts (.fieldLink RX2 38 "OrderKeeper$Net" "ties" "I") (List.mem_of_getElem? (i := 3) rfl)) (fun _ h9 => h9) rfl (tyX2_ok 6 (by decide)) rfl rfl (Nat.le_of_ble_eq_true rfl) dX2_putTie_33 (fun H locs hP hD hS => ?_)
    replace hP : va_P D vwCl [(o, .inr (2, [.ref o_weight, .ref o_after, .ref o_before, .ref o_placeOf, .ref o_taskAt, .int v_tasks, .int v_ties_9])), (o_after, .inl (cJ, 60, .inr (.inl v_after_4))), (o_before, .inl (cJ, 60, .inr (.inl v_before_8)))] H := hP
    replace hD : va_D A [(o, .inr (2, [.ref o_weight, .ref o_after, .ref o_before, .ref o_placeOf, .ref o_taskAt, .int v_tasks, .int v_ties_9])), (o_after, .inl (cJ, 60, .inr (.inl v_after_4))), (o_before, .inl (cJ, 60, .inr (.inl v_before_8)))] := hD
    exact gb_retv C (v_ties_9, v_after_4, v_before_8) (hP.sub [0, 1, 2] rfl) (hD.sub [0, 1, 2] (by decide) rfl) hS h dX2_putTie_36
/-! OrderKeeper$Net.dropTie(II)V -/
theorem in_X2_dropTie_X2 : ∀ w ∈ wsX20, w ∈ wsX2_dropTie := fun _ h => List.mem_cons_of_mem _ (List.mem_append_right _ h)
theorem hdS_X2_dropTie : yX2_dropTie.cls ≠ "java/lang/invoke/MethodHandle" ∧ yX2_dropTie.cls ≠ "java/lang/invoke/VarHandle" ∧ (parseMethodDescriptor yX2_dropTie.desc).map (fun d => d.parameters.length) = some 2 := by decide +kernel
theorem hdV_X2_dropTie : yX2_dropTie.cls = RX2 ∧ yX2_dropTie.cls ≠ "java/lang/invoke/MethodHandle" ∧ yX2_dropTie.cls ≠ "java/lang/invoke/VarHandle" ∧ (parseMethodDescriptor yX2_dropTie.desc).map (fun d => d.parameters.length) = some 2 := ⟨rfl, hdS_X2_dropTie⟩
theorem cw_X2_dropTie_49 {R : Room} {s : State} {args : Array Value} (hts : ∀ w ∈ wsX2_dropTie, w.before args s = true) (hN : gb_N s) (hR : 0 + 1 ≤ R.frames ∧ 8 + (1 + 11) + 0 ≤ R.locals) : va_CN R s args RX2 49 yX7_bit "OrderKeeper" cX7_bit 1 (some .long) wsX7_bit ({ frames := 0, cells := 0, slots := 0, locals := 0 }) 0 0 1 ∧ (Cond.static yX7_bit).before args s = true ∧ True := ⟨va_cnB 1 hts gX2_dropTie_X7_bit_n49 rfl rfl rfl (hN.1 (RX2, 49, yX7_bit, "OrderKeeper") (List.mem_of_getElem? (i := 9) rfl)) (hts (.initialized RX7) (List.mem_of_getElem? (i := 6) rfl)) hdS_X7_bit hR, (hts (.static yX7_bit) (List.mem_of_getElem? (i := 5) rfl)), trivial⟩
def wp_X2_dropTie (v_ties : Int32) (v_after : Nat → Int64) (v_before : Nat → Int64) (a1 : Int32) (a2 : Int32) (post : (Int32) → (Nat → Int64) → (Nat → Int64) → Prop) : Prop := vp_in a1 60 ∧ wp_X7_bit a2 (fun (r_2 : Int64) => vp_in a1 60 ∧ ∀ v_after_4 : Nat → Int64, v_after_4 = vp_updL v_after a1.toNatClampNeg ((v_after a1.toNatClampNeg) &&& (r_2 ^^^ (-1))) → vp_in a2 60 ∧ wp_X7_bit a1 (fun (r_6 : Int64) => vp_in a2 60 ∧ ∀ v_before_8 : Nat → Int64, v_before_8 = vp_updL v_before a2.toNatClampNeg ((v_before a2.toNatClampNeg) &&& (r_6 ^^^ (-1))) → ∀ v_ties_9 : Int32, v_ties_9 = v_ties - 1 → post v_ties_9 v_after_4 v_before_8))
set_option maxHeartbeats 4000000 in
set_option maxRecDepth 100000 in
theorem c_X2_dropTie (l : Launch) (D : va_G) (cI cJ cZ cO : ClassId) (o : Nat) (o_weight : Nat) (o_after : Nat) (o_before : Nat) (o_placeOf : Nat) (o_taskAt : Nat) (v_tasks : Int32) (v_ties : Int32) (v_after : Nat → Int64) (v_before : Nat → Int64) (a1 : Int32) (a2 : Int32) (post : (Int32) → (Nat → Int64) → (Nat → Int64) → Prop) (hw : wp_X2_dropTie v_ties v_after v_before a1 a2 post) : gb_Cv D cI cJ cZ cO l yX2_dropTie wsX2_dropTie ({ frames := 1, cells := 0, slots := 0, locals := 20 }) [.ref o, .int a1, .int a2] [(o, .inr (2, [.ref o_weight, .ref o_after, .ref o_before, .ref o_placeOf, .ref o_taskAt, .int v_tasks, .int v_ties])), (o_after, .inl (cJ, 60, .inr (.inl v_after))), (o_before, .inl (cJ, 60, .inr (.inl v_before)))] (fun u : (Int32) × (Nat → Int64) × (Nat → Int64) => post u.1 u.2.1 u.2.2) (fun u : (Int32) × (Nat → Int64) × (Nat → Int64) => [(o, .inr (2, [.ref o_weight, .ref o_after, .ref o_before, .ref o_placeOf, .ref o_taskAt, .int v_tasks, .int u.1])), (o_after, .inl (cJ, 60, .inr (.inl u.2.1))), (o_before, .inl (cJ, 60, .inr (.inl u.2.2)))]) 0 0 := by
  refine gb_mv (cc := cX2_dropTie) (maxL := 3) (ret := none) (by decide) rfl (Nat.le_of_ble_eq_true rfl) ?_
  · intro p e s m below meth c A C hP hD hS ls hl
    obtain ⟨hx, hb, hr, hml, hown, hts, hlocks, hnm, hK, hA⟩ := id C
    replace hown : s.vm.findClass RX2 = some m.cls := hown
    have h := hw
    unfold wp_X2_dropTie at h
    replace hl : lv_has ls 3 [(0, .ref o), (1, .int a1), (2, .int a2)] := hl
    refine lv_aload_n hx hb dX2_dropTie_0 rfl (lv_at hl 0 rfl) ?_
    refine va_get (D := D) (ci := 2) (v := .ref o_after) (C := RX2) (T := TX2) (N := 7) hx hb hts in_X2_dropTie_X2 hown hK.1 hP 0 rfl rfl 1 (by decide) (hts (.fieldLink RX2 15 "OrderKeeper$Net" "after" "[J") (List.mem_of_getElem? (i := 1) rfl)) (fun _ h9 => h9) rfl dX2_dropTie_1 ?_
    refine lv_iload_n hx hb dX2_dropTie_4 rfl (lv_at hl 1 rfl) ?_
    refine lv_dup2_11 hx hb dX2_dropTie_5 rfl rfl ?_
    obtain ⟨hi1, h⟩ := h
    refine va_lald hx hb hK.1 hP 1 1 rfl rfl hi1 dX2_dropTie_6 ?_
    refine lv_iload_n hx hb dX2_dropTie_7 rfl (lv_at hl 2 rfl) ?_
    refine gb_kl (wc := []) (wr := [(o, .inr (2, [.ref o_weight, .ref o_after, .ref o_before, .ref o_placeOf, .ref o_taskAt, .int v_tasks, .int v_ties])), (o_after, .inl (cJ, 60, .inr (.inl v_after))), (o_before, .inl (cJ, 60, .inr (.inl v_before)))]) C hP hD hS [] [0, 1, 2] rfl rfl (by decide) (gb_rSN (As := [.int a2]) (rest := [.long (v_after a1.toNatClampNeg), .int a1, .ref o_after]) C ((c_X7_bit l D cI cJ cZ cO a2 _ h) _) rfl (cw_X2_dropTie_49 hts hK.2 ⟨Nat.le_of_ble_eq_true rfl, Nat.le_of_ble_eq_true rfl⟩) rfl hl.1 rfl (Nat.le_of_ble_eq_true rfl) dX2_dropTie_8 ⟨Nat.zero_le _, Nat.zero_le _⟩) ?_
    rintro r_2 _ H locs h hP hD hS
    try dsimp only at h
    replace hP : va_P D vwCl [(o, .inr (2, [.ref o_weight, .ref o_after, .ref o_before, .ref o_placeOf, .ref o_taskAt, .int v_tasks, .int v_ties])), (o_after, .inl (cJ, 60, .inr (.inl v_after))), (o_before, .inl (cJ, 60, .inr (.inl v_before)))] H := hP
    replace hD : va_D A [(o, .inr (2, [.ref o_weight, .ref o_after, .ref o_before, .ref o_placeOf, .ref o_taskAt, .int v_tasks, .int v_ties])), (o_after, .inl (cJ, 60, .inr (.inl v_after))), (o_before, .inl (cJ, 60, .inr (.inl v_before)))] := hD
    refine lv_ldc2 (v := (-1)) hx hb hown (hts (.constantLong RX2 53 (-1)) (List.mem_of_getElem? (i := 2) rfl)) dX2_dropTie_11 ?_
    refine lv_lxor hx hb dX2_dropTie_14 ?_
    refine lv_land hx hb dX2_dropTie_15 ?_
    obtain ⟨hi3, h⟩ := h
    obtain ⟨v_after_4, ev_after_4⟩ : ∃ z : Nat → Int64, z = vp_updL v_after a1.toNatClampNeg ((v_after a1.toNatClampNeg) &&& (r_2 ^^^ (-1))) := ⟨_, rfl⟩
    refine va_last hx hb hK.1 hP hD hS 1 1 rfl rfl hi3 dX2_dropTie_16 (fun H locs hP hD hS => ?_)
    replace hP : va_P D vwCl [(o, .inr (2, [.ref o_weight, .ref o_after, .ref o_before, .ref o_placeOf, .ref o_taskAt, .int v_tasks, .int v_ties])), (o_after, .inl (cJ, 60, .inr (.inl v_after_4))), (o_before, .inl (cJ, 60, .inr (.inl v_before)))] H := by rw [ev_after_4]; exact hP
    replace hD : va_D A [(o, .inr (2, [.ref o_weight, .ref o_after, .ref o_before, .ref o_placeOf, .ref o_taskAt, .int v_tasks, .int v_ties])), (o_after, .inl (cJ, 60, .inr (.inl v_after_4))), (o_before, .inl (cJ, 60, .inr (.inl v_before)))] := by rw [ev_after_4]; exact hD
    replace h := h v_after_4 ev_after_4
    refine lv_aload_n hx hb dX2_dropTie_17 rfl (lv_at hl 0 rfl) ?_
    refine va_get (D := D) (ci := 2) (v := .ref o_before) (C := RX2) (T := TX2) (N := 7) hx hb hts in_X2_dropTie_X2 hown hK.1 hP 0 rfl rfl 2 (by decide) (hts (.fieldLink RX2 19 "OrderKeeper$Net" "before" "[J") (List.mem_of_getElem? (i := 3) rfl)) (fun _ h9 => h9) rfl dX2_dropTie_18 ?_
    refine lv_iload_n hx hb dX2_dropTie_21 rfl (lv_at hl 2 rfl) ?_
    refine lv_dup2_11 hx hb dX2_dropTie_22 rfl rfl ?_
    obtain ⟨hi5, h⟩ := h
    refine va_lald hx hb hK.1 hP 2 1 rfl rfl hi5 dX2_dropTie_23 ?_
    refine lv_iload_n hx hb dX2_dropTie_24 rfl (lv_at hl 1 rfl) ?_
    refine gb_kl (wc := []) (wr := [(o, .inr (2, [.ref o_weight, .ref o_after, .ref o_before, .ref o_placeOf, .ref o_taskAt, .int v_tasks, .int v_ties])), (o_after, .inl (cJ, 60, .inr (.inl v_after_4))), (o_before, .inl (cJ, 60, .inr (.inl v_before)))]) C hP hD hS [] [0, 1, 2] rfl rfl (by decide) (gb_rSN (As := [.int a1]) (rest := [.long (v_before a2.toNatClampNeg), .int a2, .ref o_before]) C ((c_X7_bit l D cI cJ cZ cO a1 _ h) _) rfl (cw_X2_dropTie_49 hts hK.2 ⟨Nat.le_of_ble_eq_true rfl, Nat.le_of_ble_eq_true rfl⟩) rfl hl.1 rfl (Nat.le_of_ble_eq_true rfl) dX2_dropTie_25 ⟨Nat.zero_le _, Nat.zero_le _⟩) ?_
    rintro r_6 _ H locs h hP hD hS
    try dsimp only at h
    replace hP : va_P D vwCl [(o, .inr (2, [.ref o_weight, .ref o_after, .ref o_before, .ref o_placeOf, .ref o_taskAt, .int v_tasks, .int v_ties])), (o_after, .inl (cJ, 60, .inr (.inl v_after_4))), (o_before, .inl (cJ, 60, .inr (.inl v_before)))] H := hP
    replace hD : va_D A [(o, .inr (2, [.ref o_weight, .ref o_after, .ref o_before, .ref o_placeOf, .ref o_taskAt, .int v_tasks, .int v_ties])), (o_after, .inl (cJ, 60, .inr (.inl v_after_4))), (o_before, .inl (cJ, 60, .inr (.inl v_before)))] := hD
    refine lv_ldc2 (v := (-1)) hx hb hown (hts (.constantLong RX2 53 (-1)) (List.mem_of_getElem? (i := 2) rfl)) dX2_dropTie_28 ?_
    refine lv_lxor hx hb dX2_dropTie_31 ?_
    refine lv_land hx hb dX2_dropTie_32 ?_
    obtain ⟨hi7, h⟩ := h
    obtain ⟨v_before_8, ev_before_8⟩ : ∃ z : Nat → Int64, z = vp_updL v_before a2.toNatClampNeg ((v_before a2.toNatClampNeg) &&& (r_6 ^^^ (-1))) := ⟨_, rfl⟩
    refine va_last hx hb hK.1 hP hD hS 2 1 rfl rfl hi7 dX2_dropTie_33 (fun H locs hP hD hS => ?_)
    replace hP : va_P D vwCl [(o, .inr (2, [.ref o_weight, .ref o_after, .ref o_before, .ref o_placeOf, .ref o_taskAt, .int v_tasks, .int v_ties])), (o_after, .inl (cJ, 60, .inr (.inl v_after_4))), (o_before, .inl (cJ, 60, .inr (.inl v_before_8)))] H := by rw [ev_before_8]; exact hP
    replace hD : va_D A [(o, .inr (2, [.ref o_weight, .ref o_after, .ref o_before, .ref o_placeOf, .ref o_taskAt, .int v_tasks, .int v_ties])), (o_after, .inl (cJ, 60, .inr (.inl v_after_4))), (o_before, .inl (cJ, 60, .inr (.inl v_before_8)))] := by rw [ev_before_8]; exact hD
    replace h := h v_before_8 ev_before_8
    refine lv_aload_n hx hb dX2_dropTie_34 rfl (lv_at hl 0 rfl) ?_
    refine lv_dup hx hb dX2_dropTie_35 rfl ?_
    refine va_get (D := D) (ci := 2) (v := .int v_ties) (C := RX2) (T := TX2) (N := 7) hx hb hts in_X2_dropTie_X2 hown hK.1 hP 0 rfl rfl 6 (by decide) (hts (.fieldLink RX2 38 "OrderKeeper$Net" "ties" "I") (List.mem_of_getElem? (i := 4) rfl)) (fun _ h9 => h9) rfl dX2_dropTie_36 ?_
    refine lv_iconst (v := 1) hx hb dX2_dropTie_39 (by decide) ?_
    refine lv_isub hx hb dX2_dropTie_40 ?_
    refine lv_topi (fun v_ties_9 ev_ties_9 => ?_)
    replace h := h v_ties_9 ev_ties_9
    refine va_put (D := D) (ci := 2) (v := .int v_ties_9) (ty := .int) (C := RX2) (T := TX2) (N := 7) hx hb hts in_X2_dropTie_X2 tyX2 tyX2_ok nmX2 hown hK.1 hP hD hS 0 rfl rfl 6 (by decide) (hts (.fieldLink RX2 38 "OrderKeeper$Net" "ties" "I") (List.mem_of_getElem? (i := 4) rfl)) (fun _ h9 => h9) rfl (tyX2_ok 6 (by decide)) rfl rfl (Nat.le_of_ble_eq_true rfl) dX2_dropTie_41 (fun H locs hP hD hS => ?_)
    replace hP : va_P D vwCl [(o, .inr (2, [.ref o_weight, .ref o_after, .ref o_before, .ref o_placeOf, .ref o_taskAt, .int v_tasks, .int v_ties_9])), (o_after, .inl (cJ, 60, .inr (.inl v_after_4))), (o_before, .inl (cJ, 60, .inr (.inl v_before_8)))] H := hP
    replace hD : va_D A [(o, .inr (2, [.ref o_weight, .ref o_after, .ref o_before, .ref o_placeOf, .ref o_taskAt, .int v_tasks, .int v_ties_9])), (o_after, .inl (cJ, 60, .inr (.inl v_after_4))), (o_before, .inl (cJ, 60, .inr (.inl v_before_8)))] := hD
    exact gb_retv C (v_ties_9, v_after_4, v_before_8) (hP.sub [0, 1, 2] rfl) (hD.sub [0, 1, 2] (by decide) rfl) hS h dX2_dropTie_44
/-! OrderKeeper$Net.spread(JII)J -/
theorem in_X2_spread_X2 : ∀ w ∈ wsX20, w ∈ wsX2_spread := fun _ h => List.mem_cons_of_mem _ (List.mem_append_right _ h)
theorem hdS_X2_spread : yX2_spread.cls ≠ "java/lang/invoke/MethodHandle" ∧ yX2_spread.cls ≠ "java/lang/invoke/VarHandle" ∧ (parseMethodDescriptor yX2_spread.desc).map (fun d => d.parameters.length) = some 3 := by decide +kernel
theorem hdV_X2_spread : yX2_spread.cls = RX2 ∧ yX2_spread.cls ≠ "java/lang/invoke/MethodHandle" ∧ yX2_spread.cls ≠ "java/lang/invoke/VarHandle" ∧ (parseMethodDescriptor yX2_spread.desc).map (fun d => d.parameters.length) = some 3 := ⟨rfl, hdS_X2_spread⟩
theorem cw_X2_spread_49 {R : Room} {s : State} {args : Array Value} (hts : ∀ w ∈ wsX2_spread, w.before args s = true) (hN : gb_N s) (hR : 0 + 1 ≤ R.frames ∧ 8 + (1 + 11) + 0 ≤ R.locals) : va_CN R s args RX2 49 yX7_bit "OrderKeeper" cX7_bit 1 (some .long) wsX7_bit ({ frames := 0, cells := 0, slots := 0, locals := 0 }) 0 0 1 ∧ (Cond.static yX7_bit).before args s = true ∧ True := ⟨va_cnB 1 hts gX2_spread_X7_bit_n49 rfl rfl rfl (hN.1 (RX2, 49, yX7_bit, "OrderKeeper") (List.mem_of_getElem? (i := 9) rfl)) (hts (.initialized RX7) (List.mem_of_getElem? (i := 4) rfl)) hdS_X7_bit hR, (hts (.static yX7_bit) (List.mem_of_getElem? (i := 3) rfl)), trivial⟩
def lp_X2_spread_6 (v_before : Nat → Int64) (v_taskAt : Nat → Int32) (x4 : Int32) : Nat → (Int64) → (Int32) → ((Int64) → Prop) → Prop
  | 0, _, _, _ => False
  | n6 + 1, x5, x7, kx => ((x4 < x7 → kx x5) ∧ (¬ (x4 < x7) → vp_in x7 60 ∧ ∀ x8_3 : Int32, x8_3 = v_taskAt x7.toNatClampNeg → vp_in x8_3 60 ∧ (((lg_cmp ((v_before x8_3.toNatClampNeg) &&& x5) 0) = 0 → ∀ x7_6 : Int32, x7_6 = x7 + 1 → lp_X2_spread_6 v_before v_taskAt x4 n6 x5 x7_6 kx) ∧ (¬ ((lg_cmp ((v_before x8_3.toNatClampNeg) &&& x5) 0) = 0) → wp_X7_bit x8_3 (fun (r_7 : Int64) => ∀ x5_8 : Int64, x5_8 = x5 ||| r_7 → ∀ x7_9 : Int32, x7_9 = x7 + 1 → lp_X2_spread_6 v_before v_taskAt x4 n6 x5_8 x7_9 kx)))))
set_option maxHeartbeats 4000000 in
set_option maxRecDepth 100000 in
theorem ml_X2_spread_6 {D : va_G} {cI cJ cZ cO : ClassId} {p : Program} {l : Launch} {e : Env} {s : State} {m : MethodId} {below : List Frame} {meth : Method} {c : Code} {A : Nat → Prop} (o : Nat) (o_weight : Nat) (o_after : Nat) (o_before : Nat) (o_placeOf : Nat) (o_taskAt : Nat) (v_tasks : Int32) (v_ties : Int32) (v_before : Nat → Int64) (v_taskAt : Nat → Int32) (a1 : Int64) (a2 : Int32) (a3 : Int32) (x4 : Int32) (C : gb_At D cI cJ cZ cO p s m meth c ([.ref o, .long a1, .int a2, .int a3] : List Value).toArray A yX2_spread cX2_spread (some .long) 9 wsX2_spread) (post : Int64 → Prop) (kx : ((Int64) → Prop)) (hkx : ∀ (x5 : Int64) (H : Heap) (locs : List Loc), va_P D vwCl [(o, .inr (2, [.ref o_weight, .ref o_after, .ref o_before, .ref o_placeOf, .ref o_taskAt, .int v_tasks, .int v_ties])), (o_before, .inl (cJ, 60, .inr (.inl v_before))), (o_taskAt, .inl (cI, 60, .inl v_taskAt))] H → va_D A [(o, .inr (2, [.ref o_weight, .ref o_after, .ref o_before, .ref o_placeOf, .ref o_taskAt, .int v_tasks, .int v_ties])), (o_before, .inl (cJ, 60, .inr (.inl v_before))), (o_taskAt, .inl (cI, 60, .inl v_taskAt))] → va_S A s.heap H locs → ∀ ls : Array Slot, lv_has ls 9 [(5, .long x5)] → kx x5 → W p l e ({ frames := 1, cells := 0, slots := 0, locals := 20 } : Room) s m ([.ref o, .long a1, .int a2, .int a3] : List Value).toArray below meth c H locs 0 0 (MQ below (va_Ql (fun (r : Int64) (_ : Unit) => post r ) (gb_B D (fun _ : Unit => [(o, .inr (2, [.ref o_weight, .ref o_after, .ref o_before, .ref o_placeOf, .ref o_taskAt, .int v_tasks, .int v_ties])), (o_before, .inl (cJ, 60, .inr (.inl v_before))), (o_taskAt, .inl (cI, 60, .inl v_taskAt))]) A) A) ([.ref o, .long a1, .int a2, .int a3] : List Value).toArray s 0 0 A) (F0 m 53 ls [])) :
    ∀ (n6 : Nat) (x5 : Int64) (x7 : Int32) (H : Heap) (locs : List Loc), va_P D vwCl [(o, .inr (2, [.ref o_weight, .ref o_after, .ref o_before, .ref o_placeOf, .ref o_taskAt, .int v_tasks, .int v_ties])), (o_before, .inl (cJ, 60, .inr (.inl v_before))), (o_taskAt, .inl (cI, 60, .inl v_taskAt))] H → va_D A [(o, .inr (2, [.ref o_weight, .ref o_after, .ref o_before, .ref o_placeOf, .ref o_taskAt, .int v_tasks, .int v_ties])), (o_before, .inl (cJ, 60, .inr (.inl v_before))), (o_taskAt, .inl (cI, 60, .inl v_taskAt))] → va_S A s.heap H locs → ∀ ls : Array Slot, lv_has ls 9 [(0, .ref o), (4, .int x4), (5, .long x5), (7, .int x7)] → lp_X2_spread_6 v_before v_taskAt x4 n6 x5 x7 kx → W p l e ({ frames := 1, cells := 0, slots := 0, locals := 20 } : Room) s m ([.ref o, .long a1, .int a2, .int a3] : List Value).toArray below meth c H locs 0 0 (MQ below (va_Ql (fun (r : Int64) (_ : Unit) => post r ) (gb_B D (fun _ : Unit => [(o, .inr (2, [.ref o_weight, .ref o_after, .ref o_before, .ref o_placeOf, .ref o_taskAt, .int v_tasks, .int v_ties])), (o_before, .inl (cJ, 60, .inr (.inl v_before))), (o_taskAt, .inl (cI, 60, .inl v_taskAt))]) A) A) ([.ref o, .long a1, .int a2, .int a3] : List Value).toArray s 0 0 A) (F0 m 6 ls []) := by
  obtain ⟨hx, hb, hr, hml, hown, hts, hlocks, hnm, hK, hA⟩ := id C
  replace hown : s.vm.findClass RX2 = some m.cls := hown
  intro n6
  induction n6 with
  | zero => intro x5 x7 H locs hP hD hS ls hl h; exact False.elim h
  | succ n6 ih =>
    intro x5 x7 H locs hP hD hS ls hl h
    rw [lp_X2_spread_6] at h
    refine lv_iload hx hb dX2_spread_6 (lv_at hl 3 rfl) ?_
    refine lv_iload hx hb dX2_spread_8 (lv_at hl 1 rfl) ?_
    refine lv_icmp_gt (tgt := 53) hx hb dX2_spread_10 (by decide) (fun c1 => ?_) (fun c1 => ?_)
    · replace h := h.1 c1
      exact hkx x5 _ _ (hP.sub [0, 1, 2] rfl) (hD.sub [0, 1, 2] (by decide) rfl) hS ls (lv_sub hl [2] rfl) h
    · replace h := h.2 c1
      refine lv_aload_n hx hb dX2_spread_13 rfl (lv_at hl 0 rfl) ?_
      refine va_get (D := D) (ci := 2) (v := .ref o_taskAt) (C := RX2) (T := TX2) (N := 7) hx hb hts in_X2_spread_X2 hown hK.1 hP 0 rfl rfl 4 (by decide) (hts (.fieldLink RX2 25 "OrderKeeper$Net" "taskAt" "[I") (List.mem_of_getElem? (i := 1) rfl)) (fun _ h9 => h9) rfl dX2_spread_14 ?_
      refine lv_iload hx hb dX2_spread_17 (lv_at hl 3 rfl) ?_
      obtain ⟨hi2, h⟩ := h
      refine va_iald hx hb hK.1 hP 2 0 rfl rfl hi2 dX2_spread_19 ?_
      refine lv_topi (fun x8_3 ex8_3 => ?_)
      replace h := h x8_3 ex8_3
      refine lv_istore (lv' := [(8, .int x8_3), (0, .ref o), (4, .int x4), (5, .long x5), (7, .int x7)]) hx hb dX2_spread_20 hl (by decide) rfl (fun ls hl => ?_)
      refine lv_aload_n hx hb dX2_spread_22 rfl (lv_at hl 1 rfl) ?_
      refine va_get (D := D) (ci := 2) (v := .ref o_before) (C := RX2) (T := TX2) (N := 7) hx hb hts in_X2_spread_X2 hown hK.1 hP 0 rfl rfl 2 (by decide) (hts (.fieldLink RX2 19 "OrderKeeper$Net" "before" "[J") (List.mem_of_getElem? (i := 2) rfl)) (fun _ h9 => h9) rfl dX2_spread_23 ?_
      refine lv_iload hx hb dX2_spread_26 (lv_at hl 0 rfl) ?_
      obtain ⟨hi4, h⟩ := h
      refine va_lald hx hb hK.1 hP 1 1 rfl rfl hi4 dX2_spread_28 ?_
      refine lv_lload hx hb dX2_spread_29 (lv_at hl 3 rfl) ?_
      refine lv_land hx hb dX2_spread_31 ?_
      refine lv_lconst (v := 0) hx hb dX2_spread_32 (by decide) ?_
      refine W.lcmp hx hb dX2_spread_33 ?_
      refine lv_if_eq (tgt := 47) hx hb dX2_spread_34 (by decide) (fun c5 => ?_) (fun c5 => ?_)
      · replace h := h.1 c5
        obtain ⟨x7_6, ex7_6⟩ : ∃ z : Int32, z = x7 + 1 := ⟨_, rfl⟩
        refine lv_iinc (v := x7_6) (lv' := [(7, .int x7_6), (8, .int x8_3), (0, .ref o), (4, .int x4), (5, .long x5)]) hx hb dX2_spread_47 hl (k := 4) rfl (by rw [ex7_6]; rfl) (by decide) rfl (fun ls hl => ?_)
        replace h := h x7_6 ex7_6
        refine lv_goto (tgt := 6) hx hb dX2_spread_50 (by decide) ?_
        exact ih x5 x7_6 _ _ (hP.sub [0, 1, 2] rfl) (hD.sub [0, 1, 2] (by decide) rfl) hS ls (lv_sub hl [2, 3, 4, 0] rfl) h
      · replace h := h.2 c5
        refine lv_lload hx hb dX2_spread_37 (lv_at hl 3 rfl) ?_
        refine lv_iload hx hb dX2_spread_39 (lv_at hl 0 rfl) ?_
        refine gb_kl (wc := []) (wr := [(o, .inr (2, [.ref o_weight, .ref o_after, .ref o_before, .ref o_placeOf, .ref o_taskAt, .int v_tasks, .int v_ties])), (o_before, .inl (cJ, 60, .inr (.inl v_before))), (o_taskAt, .inl (cI, 60, .inl v_taskAt))]) C hP hD hS [] [0, 1, 2] rfl rfl (by decide) (gb_rSN (As := [.int x8_3]) (rest := [.long x5]) C ((c_X7_bit l D cI cJ cZ cO x8_3 _ h) _) rfl (cw_X2_spread_49 hts hK.2 ⟨Nat.le_of_ble_eq_true rfl, Nat.le_of_ble_eq_true rfl⟩) rfl hl.1 rfl (Nat.le_of_ble_eq_true rfl) dX2_spread_41 ⟨Nat.zero_le _, Nat.zero_le _⟩) ?_
        rintro r_7 _ H locs h hP hD hS
        try dsimp only at h
        replace hP : va_P D vwCl [(o, .inr (2, [.ref o_weight, .ref o_after, .ref o_before, .ref o_placeOf, .ref o_taskAt, .int v_tasks, .int v_ties])), (o_before, .inl (cJ, 60, .inr (.inl v_before))), (o_taskAt, .inl (cI, 60, .inl v_taskAt))] H := hP
        replace hD : va_D A [(o, .inr (2, [.ref o_weight, .ref o_after, .ref o_before, .ref o_placeOf, .ref o_taskAt, .int v_tasks, .int v_ties])), (o_before, .inl (cJ, 60, .inr (.inl v_before))), (o_taskAt, .inl (cI, 60, .inl v_taskAt))] := hD
        refine lv_lor hx hb dX2_spread_44 ?_
        refine lv_topl (fun x5_8 ex5_8 => ?_)
        replace h := h x5_8 ex5_8
        refine lv_lstore (lv' := [(5, .long x5_8), (8, .int x8_3), (0, .ref o), (4, .int x4), (7, .int x7)]) hx hb dX2_spread_45 hl (by decide) rfl (fun ls hl => ?_)
        obtain ⟨x7_9, ex7_9⟩ : ∃ z : Int32, z = x7 + 1 := ⟨_, rfl⟩
        refine lv_iinc (v := x7_9) (lv' := [(7, .int x7_9), (5, .long x5_8), (8, .int x8_3), (0, .ref o), (4, .int x4)]) hx hb dX2_spread_47 hl (k := 4) rfl (by rw [ex7_9]; rfl) (by decide) rfl (fun ls hl => ?_)
        replace h := h x7_9 ex7_9
        refine lv_goto (tgt := 6) hx hb dX2_spread_50 (by decide) ?_
        exact ih x5_8 x7_9 _ _ (hP.sub [0, 1, 2] rfl) (hD.sub [0, 1, 2] (by decide) rfl) hS ls (lv_sub hl [3, 4, 1, 0] rfl) h
def wp_X2_spread (v_before : Nat → Int64) (v_taskAt : Nat → Int32) (a1 : Int64) (a2 : Int32) (a3 : Int32) (post : Int64 → Prop) : Prop := (∃ n6 : Nat, lp_X2_spread_6 v_before v_taskAt a3 n6 a1 a2 (fun (x5_10 : Int64) => post x5_10))
set_option maxHeartbeats 4000000 in
set_option maxRecDepth 100000 in
theorem c_X2_spread (l : Launch) (D : va_G) (cI cJ cZ cO : ClassId) (o : Nat) (o_weight : Nat) (o_after : Nat) (o_before : Nat) (o_placeOf : Nat) (o_taskAt : Nat) (v_tasks : Int32) (v_ties : Int32) (v_before : Nat → Int64) (v_taskAt : Nat → Int32) (a1 : Int64) (a2 : Int32) (a3 : Int32) (post : Int64 → Prop) (hw : wp_X2_spread v_before v_taskAt a1 a2 a3 post) : gb_Cl D cI cJ cZ cO l yX2_spread wsX2_spread ({ frames := 1, cells := 0, slots := 0, locals := 20 }) [.ref o, .long a1, .int a2, .int a3] [(o, .inr (2, [.ref o_weight, .ref o_after, .ref o_before, .ref o_placeOf, .ref o_taskAt, .int v_tasks, .int v_ties])), (o_before, .inl (cJ, 60, .inr (.inl v_before))), (o_taskAt, .inl (cI, 60, .inl v_taskAt))] (fun (r : Int64) (_ : Unit) => post r ) (fun _ : Unit => [(o, .inr (2, [.ref o_weight, .ref o_after, .ref o_before, .ref o_placeOf, .ref o_taskAt, .int v_tasks, .int v_ties])), (o_before, .inl (cJ, 60, .inr (.inl v_before))), (o_taskAt, .inl (cI, 60, .inl v_taskAt))]) 0 0 := by
  refine gb_ml (cc := cX2_spread) (maxL := 9) (ret := (some .long)) (by decide) rfl (Nat.le_of_ble_eq_true rfl) ?_
  · intro p e s m below meth c A C hP hD hS ls hl
    obtain ⟨hx, hb, hr, hml, hown, hts, hlocks, hnm, hK, hA⟩ := id C
    replace hown : s.vm.findClass RX2 = some m.cls := hown
    have h := hw
    unfold wp_X2_spread at h
    replace hl : lv_has ls 9 [(0, .ref o), (1, .long a1), (3, .int a2), (4, .int a3)] := hl
    refine lv_lload_n hx hb dX2_spread_0 rfl (lv_at hl 1 rfl) ?_
    refine lv_lstore (lv' := [(5, .long a1), (0, .ref o), (1, .long a1), (3, .int a2), (4, .int a3)]) hx hb dX2_spread_1 hl (by decide) rfl (fun ls hl => ?_)
    refine lv_iload_n hx hb dX2_spread_3 rfl (lv_at hl 3 rfl) ?_
    refine lv_istore (lv' := [(7, .int a2), (5, .long a1), (0, .ref o), (1, .long a1), (3, .int a2), (4, .int a3)]) hx hb dX2_spread_4 hl (by decide) rfl (fun ls hl => ?_)
    obtain ⟨n6, h⟩ := h
    refine ml_X2_spread_6 o o_weight o_after o_before o_placeOf o_taskAt v_tasks v_ties v_before v_taskAt a1 a2 a3 a3 C post _ ?_ n6 a1 a2 _ _ (hP.sub [0, 1, 2] rfl) (hD.sub [0, 1, 2] (by decide) rfl) hS ls (lv_sub hl [2, 5, 1, 0] rfl) h
    intro x5_10 H locs hP hD hS ls hl h
    refine lv_lload hx hb dX2_spread_53 (lv_at hl 0 rfl) ?_
    exact gb_retl C () (hP.sub [0, 1, 2] rfl) (hD.sub [0, 1, 2] (by decide) rfl) hS h dX2_spread_55
/-! OrderKeeper$Net.reachedFrom(II)J -/
theorem in_X2_reachedFrom_X2 : ∀ w ∈ wsX20, w ∈ wsX2_reachedFrom := fun _ h => List.mem_cons_of_mem _ (List.mem_append_right _ h)
theorem hdS_X2_reachedFrom : yX2_reachedFrom.cls ≠ "java/lang/invoke/MethodHandle" ∧ yX2_reachedFrom.cls ≠ "java/lang/invoke/VarHandle" ∧ (parseMethodDescriptor yX2_reachedFrom.desc).map (fun d => d.parameters.length) = some 2 := by decide +kernel
theorem hdV_X2_reachedFrom : yX2_reachedFrom.cls = RX2 ∧ yX2_reachedFrom.cls ≠ "java/lang/invoke/MethodHandle" ∧ yX2_reachedFrom.cls ≠ "java/lang/invoke/VarHandle" ∧ (parseMethodDescriptor yX2_reachedFrom.desc).map (fun d => d.parameters.length) = some 2 := ⟨rfl, hdS_X2_reachedFrom⟩
theorem cw_X2_reachedFrom_49 {R : Room} {s : State} {args : Array Value} (hts : ∀ w ∈ wsX2_reachedFrom, w.before args s = true) (hN : gb_N s) (hR : 0 + 1 ≤ R.frames ∧ 8 + (1 + 11) + 0 ≤ R.locals) : va_CN R s args RX2 49 yX7_bit "OrderKeeper" cX7_bit 1 (some .long) wsX7_bit ({ frames := 0, cells := 0, slots := 0, locals := 0 }) 0 0 1 ∧ (Cond.static yX7_bit).before args s = true ∧ True := ⟨va_cnB 1 hts gX2_reachedFrom_X7_bit_n49 rfl rfl rfl (hN.1 (RX2, 49, yX7_bit, "OrderKeeper") (List.mem_of_getElem? (i := 9) rfl)) (hts (.initialized RX7) (List.mem_of_getElem? (i := 3) rfl)) hdS_X7_bit hR, (hts (.static yX7_bit) (List.mem_of_getElem? (i := 2) rfl)), trivial⟩
theorem cw_X2_reachedFrom_55 {R : Room} {s : State} {args : Array Value} (hts : ∀ w ∈ wsX2_reachedFrom, w.before args s = true) (hR : 1 + 1 ≤ R.frames ∧ 8 + (9 + 11) + 20 ≤ R.locals) : CallW R s args RX2 RX2 55 yX2_spread cX2_spread 9 (some .long) wsX2_spread ({ frames := 1, cells := 0, slots := 0, locals := 20 }) 0 0 3 := cwV 3 hts gX2_reachedFrom_X2_spread rfl rfl rfl hdV_X2_spread hR
def wp_X2_reachedFrom (v_before : Nat → Int64) (v_placeOf : Nat → Int32) (v_taskAt : Nat → Int32) (a1 : Int32) (a2 : Int32) (post : Int64 → Prop) : Prop := wp_X7_bit a1 (fun (r_1 : Int64) => vp_in a1 60 ∧ wp_X2_spread v_before v_taskAt r_1 ((v_placeOf a1.toNatClampNeg) + 1) a2 (fun (r_3 : Int64) => post r_3))
set_option maxHeartbeats 4000000 in
set_option maxRecDepth 100000 in
theorem c_X2_reachedFrom (l : Launch) (D : va_G) (cI cJ cZ cO : ClassId) (o : Nat) (o_weight : Nat) (o_after : Nat) (o_before : Nat) (o_placeOf : Nat) (o_taskAt : Nat) (v_tasks : Int32) (v_ties : Int32) (v_before : Nat → Int64) (v_placeOf : Nat → Int32) (v_taskAt : Nat → Int32) (a1 : Int32) (a2 : Int32) (post : Int64 → Prop) (hw : wp_X2_reachedFrom v_before v_placeOf v_taskAt a1 a2 post) : gb_Cl D cI cJ cZ cO l yX2_reachedFrom wsX2_reachedFrom ({ frames := 2, cells := 0, slots := 0, locals := 48 }) [.ref o, .int a1, .int a2] [(o, .inr (2, [.ref o_weight, .ref o_after, .ref o_before, .ref o_placeOf, .ref o_taskAt, .int v_tasks, .int v_ties])), (o_before, .inl (cJ, 60, .inr (.inl v_before))), (o_placeOf, .inl (cI, 60, .inl v_placeOf)), (o_taskAt, .inl (cI, 60, .inl v_taskAt))] (fun (r : Int64) (_ : Unit) => post r ) (fun _ : Unit => [(o, .inr (2, [.ref o_weight, .ref o_after, .ref o_before, .ref o_placeOf, .ref o_taskAt, .int v_tasks, .int v_ties])), (o_before, .inl (cJ, 60, .inr (.inl v_before))), (o_placeOf, .inl (cI, 60, .inl v_placeOf)), (o_taskAt, .inl (cI, 60, .inl v_taskAt))]) 0 0 := by
  refine gb_ml (cc := cX2_reachedFrom) (maxL := 3) (ret := (some .long)) (by decide) rfl (Nat.le_of_ble_eq_true rfl) ?_
  · intro p e s m below meth c A C hP hD hS ls hl
    obtain ⟨hx, hb, hr, hml, hown, hts, hlocks, hnm, hK, hA⟩ := id C
    replace hown : s.vm.findClass RX2 = some m.cls := hown
    have h := hw
    unfold wp_X2_reachedFrom at h
    replace hl : lv_has ls 3 [(0, .ref o), (1, .int a1), (2, .int a2)] := hl
    refine lv_aload_n hx hb dX2_reachedFrom_0 rfl (lv_at hl 0 rfl) ?_
    refine lv_iload_n hx hb dX2_reachedFrom_1 rfl (lv_at hl 1 rfl) ?_
    refine gb_kl (wc := []) (wr := [(o, .inr (2, [.ref o_weight, .ref o_after, .ref o_before, .ref o_placeOf, .ref o_taskAt, .int v_tasks, .int v_ties])), (o_before, .inl (cJ, 60, .inr (.inl v_before))), (o_placeOf, .inl (cI, 60, .inl v_placeOf)), (o_taskAt, .inl (cI, 60, .inl v_taskAt))]) C hP hD hS [] [0, 1, 2, 3] rfl rfl (by decide) (gb_rSN (As := [.int a1]) (rest := [.ref o]) C ((c_X7_bit l D cI cJ cZ cO a1 _ h) _) rfl (cw_X2_reachedFrom_49 hts hK.2 ⟨Nat.le_of_ble_eq_true rfl, Nat.le_of_ble_eq_true rfl⟩) rfl hl.1 rfl (Nat.le_of_ble_eq_true rfl) dX2_reachedFrom_2 ⟨Nat.zero_le _, Nat.zero_le _⟩) ?_
    rintro r_1 _ H locs h hP hD hS
    try dsimp only at h
    replace hP : va_P D vwCl [(o, .inr (2, [.ref o_weight, .ref o_after, .ref o_before, .ref o_placeOf, .ref o_taskAt, .int v_tasks, .int v_ties])), (o_before, .inl (cJ, 60, .inr (.inl v_before))), (o_placeOf, .inl (cI, 60, .inl v_placeOf)), (o_taskAt, .inl (cI, 60, .inl v_taskAt))] H := hP
    replace hD : va_D A [(o, .inr (2, [.ref o_weight, .ref o_after, .ref o_before, .ref o_placeOf, .ref o_taskAt, .int v_tasks, .int v_ties])), (o_before, .inl (cJ, 60, .inr (.inl v_before))), (o_placeOf, .inl (cI, 60, .inl v_placeOf)), (o_taskAt, .inl (cI, 60, .inl v_taskAt))] := hD
    refine lv_aload_n hx hb dX2_reachedFrom_5 rfl (lv_at hl 0 rfl) ?_
    refine va_get (D := D) (ci := 2) (v := .ref o_placeOf) (C := RX2) (T := TX2) (N := 7) hx hb hts in_X2_reachedFrom_X2 hown hK.1 hP 0 rfl rfl 3 (by decide) (hts (.fieldLink RX2 22 "OrderKeeper$Net" "placeOf" "[I") (List.mem_of_getElem? (i := 1) rfl)) (fun _ h9 => h9) rfl dX2_reachedFrom_6 ?_
    refine lv_iload_n hx hb dX2_reachedFrom_9 rfl (lv_at hl 1 rfl) ?_
    obtain ⟨hi2, h⟩ := h
    refine va_iald hx hb hK.1 hP 2 0 rfl rfl hi2 dX2_reachedFrom_10 ?_
    refine lv_iconst (v := 1) hx hb dX2_reachedFrom_11 (by decide) ?_
    refine lv_iadd hx hb dX2_reachedFrom_12 ?_
    refine lv_iload_n hx hb dX2_reachedFrom_13 rfl (lv_at hl 2 rfl) ?_
    refine gb_kl (wc := [(o, .inr (2, [.ref o_weight, .ref o_after, .ref o_before, .ref o_placeOf, .ref o_taskAt, .int v_tasks, .int v_ties])), (o_before, .inl (cJ, 60, .inr (.inl v_before))), (o_taskAt, .inl (cI, 60, .inl v_taskAt))]) (wr := [(o_placeOf, .inl (cI, 60, .inl v_placeOf))]) C hP hD hS [0, 1, 3] [2] rfl rfl (by decide) (gb_rV (As := [.long r_1, .int ((v_placeOf a1.toNatClampNeg) + 1), .int a2]) (rest := []) C ((c_X2_spread l D cI cJ cZ cO o o_weight o_after o_before o_placeOf o_taskAt v_tasks v_ties v_before v_taskAt r_1 ((v_placeOf a1.toNatClampNeg) + 1) a2 _ h) _) rfl (cw_X2_reachedFrom_55 hts ⟨Nat.le_of_ble_eq_true rfl, Nat.le_of_ble_eq_true rfl⟩) (ci := 2) (q0 := 0) rfl rfl rfl rfl hl.1 rfl (Nat.le_of_ble_eq_true rfl) dX2_reachedFrom_14 ⟨Nat.zero_le _, Nat.zero_le _⟩) ?_
    rintro r_3 _ H locs h hP hD hS
    try dsimp only at h
    replace hP : va_P D vwCl [(o_placeOf, .inl (cI, 60, .inl v_placeOf)), (o, .inr (2, [.ref o_weight, .ref o_after, .ref o_before, .ref o_placeOf, .ref o_taskAt, .int v_tasks, .int v_ties])), (o_before, .inl (cJ, 60, .inr (.inl v_before))), (o_taskAt, .inl (cI, 60, .inl v_taskAt))] H := hP
    replace hD : va_D A [(o_placeOf, .inl (cI, 60, .inl v_placeOf)), (o, .inr (2, [.ref o_weight, .ref o_after, .ref o_before, .ref o_placeOf, .ref o_taskAt, .int v_tasks, .int v_ties])), (o_before, .inl (cJ, 60, .inr (.inl v_before))), (o_taskAt, .inl (cI, 60, .inl v_taskAt))] := hD
    exact gb_retl C () (hP.sub [1, 2, 0, 3] rfl) (hD.sub [1, 2, 0, 3] (by decide) rfl) hS h dX2_reachedFrom_17
/-! OrderKeeper$Net.reaching(II)J -/
theorem in_X2_reaching_X2 : ∀ w ∈ wsX20, w ∈ wsX2_reaching := fun _ h => List.mem_cons_of_mem _ (List.mem_append_right _ h)
theorem hdS_X2_reaching : yX2_reaching.cls ≠ "java/lang/invoke/MethodHandle" ∧ yX2_reaching.cls ≠ "java/lang/invoke/VarHandle" ∧ (parseMethodDescriptor yX2_reaching.desc).map (fun d => d.parameters.length) = some 2 := by decide +kernel
theorem hdV_X2_reaching : yX2_reaching.cls = RX2 ∧ yX2_reaching.cls ≠ "java/lang/invoke/MethodHandle" ∧ yX2_reaching.cls ≠ "java/lang/invoke/VarHandle" ∧ (parseMethodDescriptor yX2_reaching.desc).map (fun d => d.parameters.length) = some 2 := ⟨rfl, hdS_X2_reaching⟩
theorem cw_X2_reaching_49 {R : Room} {s : State} {args : Array Value} (hts : ∀ w ∈ wsX2_reaching, w.before args s = true) (hN : gb_N s) (hR : 0 + 1 ≤ R.frames ∧ 8 + (1 + 11) + 0 ≤ R.locals) : va_CN R s args RX2 49 yX7_bit "OrderKeeper" cX7_bit 1 (some .long) wsX7_bit ({ frames := 0, cells := 0, slots := 0, locals := 0 }) 0 0 1 ∧ (Cond.static yX7_bit).before args s = true ∧ True := ⟨va_cnB 1 hts gX2_reaching_X7_bit_n49 rfl rfl rfl (hN.1 (RX2, 49, yX7_bit, "OrderKeeper") (List.mem_of_getElem? (i := 9) rfl)) (hts (.initialized RX7) (List.mem_of_getElem? (i := 5) rfl)) hdS_X7_bit hR, (hts (.static yX7_bit) (List.mem_of_getElem? (i := 4) rfl)), trivial⟩
def lp_X2_reaching_15 (v_after : Nat → Int64) (v_taskAt : Nat → Int32) (x2 : Int32) : Nat → (Int64) → (Int32) → ((Int64) → Prop) → Prop
  | 0, _, _, _ => False
  | n15 + 1, x3, x5, kx => ((x5 < x2 → kx x3) ∧ (¬ (x5 < x2) → vp_in x5 60 ∧ ∀ x6_6 : Int32, x6_6 = v_taskAt x5.toNatClampNeg → vp_in x6_6 60 ∧ (((lg_cmp ((v_after x6_6.toNatClampNeg) &&& x3) 0) = 0 → ∀ x5_9 : Int32, x5_9 = x5 + (-1) → lp_X2_reaching_15 v_after v_taskAt x2 n15 x3 x5_9 kx) ∧ (¬ ((lg_cmp ((v_after x6_6.toNatClampNeg) &&& x3) 0) = 0) → wp_X7_bit x6_6 (fun (r_10 : Int64) => ∀ x3_11 : Int64, x3_11 = x3 ||| r_10 → ∀ x5_12 : Int32, x5_12 = x5 + (-1) → lp_X2_reaching_15 v_after v_taskAt x2 n15 x3_11 x5_12 kx)))))
set_option maxHeartbeats 4000000 in
set_option maxRecDepth 100000 in
theorem ml_X2_reaching_15 {D : va_G} {cI cJ cZ cO : ClassId} {p : Program} {l : Launch} {e : Env} {s : State} {m : MethodId} {below : List Frame} {meth : Method} {c : Code} {A : Nat → Prop} (o : Nat) (o_weight : Nat) (o_after : Nat) (o_before : Nat) (o_placeOf : Nat) (o_taskAt : Nat) (v_tasks : Int32) (v_ties : Int32) (v_after : Nat → Int64) (v_placeOf : Nat → Int32) (v_taskAt : Nat → Int32) (a1 : Int32) (a2 : Int32) (x2 : Int32) (C : gb_At D cI cJ cZ cO p s m meth c ([.ref o, .int a1, .int a2] : List Value).toArray A yX2_reaching cX2_reaching (some .long) 7 wsX2_reaching) (post : Int64 → Prop) (kx : ((Int64) → Prop)) (hkx : ∀ (x3 : Int64) (H : Heap) (locs : List Loc), va_P D vwCl [(o, .inr (2, [.ref o_weight, .ref o_after, .ref o_before, .ref o_placeOf, .ref o_taskAt, .int v_tasks, .int v_ties])), (o_after, .inl (cJ, 60, .inr (.inl v_after))), (o_placeOf, .inl (cI, 60, .inl v_placeOf)), (o_taskAt, .inl (cI, 60, .inl v_taskAt))] H → va_D A [(o, .inr (2, [.ref o_weight, .ref o_after, .ref o_before, .ref o_placeOf, .ref o_taskAt, .int v_tasks, .int v_ties])), (o_after, .inl (cJ, 60, .inr (.inl v_after))), (o_placeOf, .inl (cI, 60, .inl v_placeOf)), (o_taskAt, .inl (cI, 60, .inl v_taskAt))] → va_S A s.heap H locs → ∀ ls : Array Slot, lv_has ls 7 [(3, .long x3)] → kx x3 → W p l e ({ frames := 1, cells := 0, slots := 0, locals := 20 } : Room) s m ([.ref o, .int a1, .int a2] : List Value).toArray below meth c H locs 0 0 (MQ below (va_Ql (fun (r : Int64) (_ : Unit) => post r ) (gb_B D (fun _ : Unit => [(o, .inr (2, [.ref o_weight, .ref o_after, .ref o_before, .ref o_placeOf, .ref o_taskAt, .int v_tasks, .int v_ties])), (o_after, .inl (cJ, 60, .inr (.inl v_after))), (o_placeOf, .inl (cI, 60, .inl v_placeOf)), (o_taskAt, .inl (cI, 60, .inl v_taskAt))]) A) A) ([.ref o, .int a1, .int a2] : List Value).toArray s 0 0 A) (F0 m 58 ls [])) :
    ∀ (n15 : Nat) (x3 : Int64) (x5 : Int32) (H : Heap) (locs : List Loc), va_P D vwCl [(o, .inr (2, [.ref o_weight, .ref o_after, .ref o_before, .ref o_placeOf, .ref o_taskAt, .int v_tasks, .int v_ties])), (o_after, .inl (cJ, 60, .inr (.inl v_after))), (o_placeOf, .inl (cI, 60, .inl v_placeOf)), (o_taskAt, .inl (cI, 60, .inl v_taskAt))] H → va_D A [(o, .inr (2, [.ref o_weight, .ref o_after, .ref o_before, .ref o_placeOf, .ref o_taskAt, .int v_tasks, .int v_ties])), (o_after, .inl (cJ, 60, .inr (.inl v_after))), (o_placeOf, .inl (cI, 60, .inl v_placeOf)), (o_taskAt, .inl (cI, 60, .inl v_taskAt))] → va_S A s.heap H locs → ∀ ls : Array Slot, lv_has ls 7 [(0, .ref o), (2, .int x2), (3, .long x3), (5, .int x5)] → lp_X2_reaching_15 v_after v_taskAt x2 n15 x3 x5 kx → W p l e ({ frames := 1, cells := 0, slots := 0, locals := 20 } : Room) s m ([.ref o, .int a1, .int a2] : List Value).toArray below meth c H locs 0 0 (MQ below (va_Ql (fun (r : Int64) (_ : Unit) => post r ) (gb_B D (fun _ : Unit => [(o, .inr (2, [.ref o_weight, .ref o_after, .ref o_before, .ref o_placeOf, .ref o_taskAt, .int v_tasks, .int v_ties])), (o_after, .inl (cJ, 60, .inr (.inl v_after))), (o_placeOf, .inl (cI, 60, .inl v_placeOf)), (o_taskAt, .inl (cI, 60, .inl v_taskAt))]) A) A) ([.ref o, .int a1, .int a2] : List Value).toArray s 0 0 A) (F0 m 15 ls []) := by
  obtain ⟨hx, hb, hr, hml, hown, hts, hlocks, hnm, hK, hA⟩ := id C
  replace hown : s.vm.findClass RX2 = some m.cls := hown
  intro n15
  induction n15 with
  | zero => intro x3 x5 H locs hP hD hS ls hl h; exact False.elim h
  | succ n15 ih =>
    intro x3 x5 H locs hP hD hS ls hl h
    rw [lp_X2_reaching_15] at h
    refine lv_iload hx hb dX2_reaching_15 (lv_at hl 3 rfl) ?_
    refine lv_iload_n hx hb dX2_reaching_17 rfl (lv_at hl 1 rfl) ?_
    refine lv_icmp_lt (tgt := 58) hx hb dX2_reaching_18 (by decide) (fun c4 => ?_) (fun c4 => ?_)
    · replace h := h.1 c4
      exact hkx x3 _ _ (hP.sub [0, 1, 2, 3] rfl) (hD.sub [0, 1, 2, 3] (by decide) rfl) hS ls (lv_sub hl [2] rfl) h
    · replace h := h.2 c4
      refine lv_aload_n hx hb dX2_reaching_21 rfl (lv_at hl 0 rfl) ?_
      refine va_get (D := D) (ci := 2) (v := .ref o_taskAt) (C := RX2) (T := TX2) (N := 7) hx hb hts in_X2_reaching_X2 hown hK.1 hP 0 rfl rfl 4 (by decide) (hts (.fieldLink RX2 25 "OrderKeeper$Net" "taskAt" "[I") (List.mem_of_getElem? (i := 2) rfl)) (fun _ h9 => h9) rfl dX2_reaching_22 ?_
      refine lv_iload hx hb dX2_reaching_25 (lv_at hl 3 rfl) ?_
      obtain ⟨hi5, h⟩ := h
      refine va_iald hx hb hK.1 hP 3 0 rfl rfl hi5 dX2_reaching_27 ?_
      refine lv_topi (fun x6_6 ex6_6 => ?_)
      replace h := h x6_6 ex6_6
      refine lv_istore (lv' := [(6, .int x6_6), (0, .ref o), (2, .int x2), (3, .long x3), (5, .int x5)]) hx hb dX2_reaching_28 hl (by decide) rfl (fun ls hl => ?_)
      refine lv_aload_n hx hb dX2_reaching_30 rfl (lv_at hl 1 rfl) ?_
      refine va_get (D := D) (ci := 2) (v := .ref o_after) (C := RX2) (T := TX2) (N := 7) hx hb hts in_X2_reaching_X2 hown hK.1 hP 0 rfl rfl 1 (by decide) (hts (.fieldLink RX2 15 "OrderKeeper$Net" "after" "[J") (List.mem_of_getElem? (i := 3) rfl)) (fun _ h9 => h9) rfl dX2_reaching_31 ?_
      refine lv_iload hx hb dX2_reaching_34 (lv_at hl 0 rfl) ?_
      obtain ⟨hi7, h⟩ := h
      refine va_lald hx hb hK.1 hP 1 1 rfl rfl hi7 dX2_reaching_36 ?_
      refine lv_lload_n hx hb dX2_reaching_37 rfl (lv_at hl 3 rfl) ?_
      refine lv_land hx hb dX2_reaching_38 ?_
      refine lv_lconst (v := 0) hx hb dX2_reaching_39 (by decide) ?_
      refine W.lcmp hx hb dX2_reaching_40 ?_
      refine lv_if_eq (tgt := 52) hx hb dX2_reaching_41 (by decide) (fun c8 => ?_) (fun c8 => ?_)
      · replace h := h.1 c8
        obtain ⟨x5_9, ex5_9⟩ : ∃ z : Int32, z = x5 + (-1) := ⟨_, rfl⟩
        refine lv_iinc (v := x5_9) (lv' := [(5, .int x5_9), (6, .int x6_6), (0, .ref o), (2, .int x2), (3, .long x3)]) hx hb dX2_reaching_52 hl (k := 4) rfl (by rw [ex5_9]; rfl) (by decide) rfl (fun ls hl => ?_)
        replace h := h x5_9 ex5_9
        refine lv_goto (tgt := 15) hx hb dX2_reaching_55 (by decide) ?_
        exact ih x3 x5_9 _ _ (hP.sub [0, 1, 2, 3] rfl) (hD.sub [0, 1, 2, 3] (by decide) rfl) hS ls (lv_sub hl [2, 3, 4, 0] rfl) h
      · replace h := h.2 c8
        refine lv_lload_n hx hb dX2_reaching_44 rfl (lv_at hl 3 rfl) ?_
        refine lv_iload hx hb dX2_reaching_45 (lv_at hl 0 rfl) ?_
        refine gb_kl (wc := []) (wr := [(o, .inr (2, [.ref o_weight, .ref o_after, .ref o_before, .ref o_placeOf, .ref o_taskAt, .int v_tasks, .int v_ties])), (o_after, .inl (cJ, 60, .inr (.inl v_after))), (o_placeOf, .inl (cI, 60, .inl v_placeOf)), (o_taskAt, .inl (cI, 60, .inl v_taskAt))]) C hP hD hS [] [0, 1, 2, 3] rfl rfl (by decide) (gb_rSN (As := [.int x6_6]) (rest := [.long x3]) C ((c_X7_bit l D cI cJ cZ cO x6_6 _ h) _) rfl (cw_X2_reaching_49 hts hK.2 ⟨Nat.le_of_ble_eq_true rfl, Nat.le_of_ble_eq_true rfl⟩) rfl hl.1 rfl (Nat.le_of_ble_eq_true rfl) dX2_reaching_47 ⟨Nat.zero_le _, Nat.zero_le _⟩) ?_
        rintro r_10 _ H locs h hP hD hS
        try dsimp only at h
        replace hP : va_P D vwCl [(o, .inr (2, [.ref o_weight, .ref o_after, .ref o_before, .ref o_placeOf, .ref o_taskAt, .int v_tasks, .int v_ties])), (o_after, .inl (cJ, 60, .inr (.inl v_after))), (o_placeOf, .inl (cI, 60, .inl v_placeOf)), (o_taskAt, .inl (cI, 60, .inl v_taskAt))] H := hP
        replace hD : va_D A [(o, .inr (2, [.ref o_weight, .ref o_after, .ref o_before, .ref o_placeOf, .ref o_taskAt, .int v_tasks, .int v_ties])), (o_after, .inl (cJ, 60, .inr (.inl v_after))), (o_placeOf, .inl (cI, 60, .inl v_placeOf)), (o_taskAt, .inl (cI, 60, .inl v_taskAt))] := hD
        refine lv_lor hx hb dX2_reaching_50 ?_
        refine lv_topl (fun x3_11 ex3_11 => ?_)
        replace h := h x3_11 ex3_11
        refine lv_lstore_n (lv' := [(3, .long x3_11), (6, .int x6_6), (0, .ref o), (2, .int x2), (5, .int x5)]) hx hb dX2_reaching_51 rfl hl (by decide) rfl (fun ls hl => ?_)
        obtain ⟨x5_12, ex5_12⟩ : ∃ z : Int32, z = x5 + (-1) := ⟨_, rfl⟩
        refine lv_iinc (v := x5_12) (lv' := [(5, .int x5_12), (3, .long x3_11), (6, .int x6_6), (0, .ref o), (2, .int x2)]) hx hb dX2_reaching_52 hl (k := 4) rfl (by rw [ex5_12]; rfl) (by decide) rfl (fun ls hl => ?_)
        replace h := h x5_12 ex5_12
        refine lv_goto (tgt := 15) hx hb dX2_reaching_55 (by decide) ?_
        exact ih x3_11 x5_12 _ _ (hP.sub [0, 1, 2, 3] rfl) (hD.sub [0, 1, 2, 3] (by decide) rfl) hS ls (lv_sub hl [3, 4, 1, 0] rfl) h
def wp_X2_reaching (v_after : Nat → Int64) (v_placeOf : Nat → Int32) (v_taskAt : Nat → Int32) (a1 : Int32) (a2 : Int32) (post : Int64 → Prop) : Prop := wp_X7_bit a1 (fun (r_1 : Int64) => vp_in a1 60 ∧ ∀ x5_3 : Int32, x5_3 = (v_placeOf a1.toNatClampNeg) - 1 → (∃ n15 : Nat, lp_X2_reaching_15 v_after v_taskAt a2 n15 r_1 x5_3 (fun (x3_13 : Int64) => post x3_13)))
set_option maxHeartbeats 4000000 in
set_option maxRecDepth 100000 in
theorem c_X2_reaching (l : Launch) (D : va_G) (cI cJ cZ cO : ClassId) (o : Nat) (o_weight : Nat) (o_after : Nat) (o_before : Nat) (o_placeOf : Nat) (o_taskAt : Nat) (v_tasks : Int32) (v_ties : Int32) (v_after : Nat → Int64) (v_placeOf : Nat → Int32) (v_taskAt : Nat → Int32) (a1 : Int32) (a2 : Int32) (post : Int64 → Prop) (hw : wp_X2_reaching v_after v_placeOf v_taskAt a1 a2 post) : gb_Cl D cI cJ cZ cO l yX2_reaching wsX2_reaching ({ frames := 1, cells := 0, slots := 0, locals := 20 }) [.ref o, .int a1, .int a2] [(o, .inr (2, [.ref o_weight, .ref o_after, .ref o_before, .ref o_placeOf, .ref o_taskAt, .int v_tasks, .int v_ties])), (o_after, .inl (cJ, 60, .inr (.inl v_after))), (o_placeOf, .inl (cI, 60, .inl v_placeOf)), (o_taskAt, .inl (cI, 60, .inl v_taskAt))] (fun (r : Int64) (_ : Unit) => post r ) (fun _ : Unit => [(o, .inr (2, [.ref o_weight, .ref o_after, .ref o_before, .ref o_placeOf, .ref o_taskAt, .int v_tasks, .int v_ties])), (o_after, .inl (cJ, 60, .inr (.inl v_after))), (o_placeOf, .inl (cI, 60, .inl v_placeOf)), (o_taskAt, .inl (cI, 60, .inl v_taskAt))]) 0 0 := by
  refine gb_ml (cc := cX2_reaching) (maxL := 7) (ret := (some .long)) (by decide) rfl (Nat.le_of_ble_eq_true rfl) ?_
  · intro p e s m below meth c A C hP hD hS ls hl
    obtain ⟨hx, hb, hr, hml, hown, hts, hlocks, hnm, hK, hA⟩ := id C
    replace hown : s.vm.findClass RX2 = some m.cls := hown
    have h := hw
    unfold wp_X2_reaching at h
    replace hl : lv_has ls 7 [(0, .ref o), (1, .int a1), (2, .int a2)] := hl
    refine lv_iload_n hx hb dX2_reaching_0 rfl (lv_at hl 1 rfl) ?_
    refine gb_kl (wc := []) (wr := [(o, .inr (2, [.ref o_weight, .ref o_after, .ref o_before, .ref o_placeOf, .ref o_taskAt, .int v_tasks, .int v_ties])), (o_after, .inl (cJ, 60, .inr (.inl v_after))), (o_placeOf, .inl (cI, 60, .inl v_placeOf)), (o_taskAt, .inl (cI, 60, .inl v_taskAt))]) C hP hD hS [] [0, 1, 2, 3] rfl rfl (by decide) (gb_rSN (As := [.int a1]) (rest := []) C ((c_X7_bit l D cI cJ cZ cO a1 _ h) _) rfl (cw_X2_reaching_49 hts hK.2 ⟨Nat.le_of_ble_eq_true rfl, Nat.le_of_ble_eq_true rfl⟩) rfl hl.1 rfl (Nat.le_of_ble_eq_true rfl) dX2_reaching_1 ⟨Nat.zero_le _, Nat.zero_le _⟩) ?_
    rintro r_1 _ H locs h hP hD hS
    try dsimp only at h
    replace hP : va_P D vwCl [(o, .inr (2, [.ref o_weight, .ref o_after, .ref o_before, .ref o_placeOf, .ref o_taskAt, .int v_tasks, .int v_ties])), (o_after, .inl (cJ, 60, .inr (.inl v_after))), (o_placeOf, .inl (cI, 60, .inl v_placeOf)), (o_taskAt, .inl (cI, 60, .inl v_taskAt))] H := hP
    replace hD : va_D A [(o, .inr (2, [.ref o_weight, .ref o_after, .ref o_before, .ref o_placeOf, .ref o_taskAt, .int v_tasks, .int v_ties])), (o_after, .inl (cJ, 60, .inr (.inl v_after))), (o_placeOf, .inl (cI, 60, .inl v_placeOf)), (o_taskAt, .inl (cI, 60, .inl v_taskAt))] := hD
    refine lv_lstore_n (lv' := [(3, .long r_1), (0, .ref o), (1, .int a1), (2, .int a2)]) hx hb dX2_reaching_4 rfl hl (by decide) rfl (fun ls hl => ?_)
    refine lv_aload_n hx hb dX2_reaching_5 rfl (lv_at hl 1 rfl) ?_
    refine va_get (D := D) (ci := 2) (v := .ref o_placeOf) (C := RX2) (T := TX2) (N := 7) hx hb hts in_X2_reaching_X2 hown hK.1 hP 0 rfl rfl 3 (by decide) (hts (.fieldLink RX2 22 "OrderKeeper$Net" "placeOf" "[I") (List.mem_of_getElem? (i := 1) rfl)) (fun _ h9 => h9) rfl dX2_reaching_6 ?_
    refine lv_iload_n hx hb dX2_reaching_9 rfl (lv_at hl 2 rfl) ?_
    obtain ⟨hi2, h⟩ := h
    refine va_iald hx hb hK.1 hP 2 0 rfl rfl hi2 dX2_reaching_10 ?_
    refine lv_iconst (v := 1) hx hb dX2_reaching_11 (by decide) ?_
    refine lv_isub hx hb dX2_reaching_12 ?_
    refine lv_topi (fun x5_3 ex5_3 => ?_)
    replace h := h x5_3 ex5_3
    refine lv_istore (lv' := [(5, .int x5_3), (3, .long r_1), (0, .ref o), (1, .int a1), (2, .int a2)]) hx hb dX2_reaching_13 hl (by decide) rfl (fun ls hl => ?_)
    obtain ⟨n15, h⟩ := h
    refine ml_X2_reaching_15 o o_weight o_after o_before o_placeOf o_taskAt v_tasks v_ties v_after v_placeOf v_taskAt a1 a2 a2 C post _ ?_ n15 r_1 x5_3 _ _ (hP.sub [0, 1, 2, 3] rfl) (hD.sub [0, 1, 2, 3] (by decide) rfl) hS ls (lv_sub hl [2, 4, 1, 0] rfl) h
    intro x3_13 H locs hP hD hS ls hl h
    refine lv_lload_n hx hb dX2_reaching_58 rfl (lv_at hl 0 rfl) ?_
    exact gb_retl C () (hP.sub [0, 1, 2, 3] rfl) (hD.sub [0, 1, 2, 3] (by decide) rfl) hS h dX2_reaching_59
