theorem gb_rI {D : va_G} {cI cJ cZ cO : ClassId} {p : Program} {l : Launch} {e : Env} {R : Room} {s : State} {m : MethodId} {args : Array Value} {below : List Frame} {meth : Method} {c : Code} {H : Heap} {locs : List Loc} {cells slots mc ms : Nat} {A : Nat → Prop} {y0 : MethodName} {cc : ByteArray} {nL : Nat} {Ts : List Cond} {pc : Nat} {ls : Array Slot} {ret0 : Option FieldType} {y : MethodName} {bytes : ByteArray} {maxL n index : Nat} {wsc : List Cond} {rm : Room} {As rest st0 : List Value} {b : Nat} {wc : va_W} {Qc : Array Value → State → Outcome → State → Prop} {free : Addr → Prop} (C : gb_At D cI cJ cZ cO p s m meth c args A y0 cc ret0 nL Ts) (hM : Met l y wsc rm (gb_Pc D cI cJ cZ cO (.ref b :: As) wc H.size) Qc mc ms free) {own : String} (ho : y0.cls = own) (cw : CallB R s args own index y bytes maxL none wsc rm mc ms n ∧ y.name = "<init>" ∧ (Cond.instanceMethod y).before args s = true) (hn : As.length = n) (hsize : ls.size = nL) (hst : st0 = As.reverse ++ .ref b :: rest) (hroom : (rest.map fun v => v.category).sum ≤ 8) (hdg : decode cc pc = .ok (.invokespecial index, 3)) (hf : cells + mc ≤ R.cells ∧ slots + ms ≤ R.slots) (hP : va_P D vwCl wc H) (hD : va_D A wc) :
    va_Run p l e R s m args below meth c H locs cells slots mc ms (F0 m pc ls st0) rest (Qc (Value.ref b :: As).toArray) free :=
  va_runI (gb_fix C ho) hM cw (gb_preS C hP hD rfl) rfl hn hsize hst (lv_room hroom) hdg hf
set_option maxHeartbeats 8000000 in
set_option maxRecDepth 100000 in
theorem law_loop_open (Rel : lw_CS → lw_MS → Prop) (S_task : sim_task Rel) (S_weigh : sim_weigh Rel) (S_tie : sim_tie Rel) (S_untie : sim_untie Rel) (S_gather : sim_gather Rel) (S_commit : sim_commit Rel) (S_undo : sim_undo Rel) (S_place : sim_place Rel) (S_at : sim_at Rel) (S_count : sim_count Rel) (S_reaches : sim_reaches Rel) (S_tied : sim_tied Rel) (S_witness : sim_witness Rel) (S_time : sim_time Rel) (S_critical : sim_critical Rel) (S_plan : sim_plan Rel) (S_planned : sim_planned Rel) (S_check : sim_check Rel) {D : va_G} {cI cJ cZ cO : ClassId} {p : Program} {l : Launch} {e : Env} {s : State} {m : MethodId} {below : List Frame} {meth : Method} {c : Code} {b L : Nat} {xs : Nat → Int32} (hL : L ≤ 1536) (hX : va_X b L xs s s.heap) (hbl : b < s.heap.size) (C : gb_At D cI cJ cZ cO p s m meth c #[Value.ref b] (fun q : Nat => s.heap.size ≤ q) ⟨RL, meth.name, ""⟩ cL_law ret 4 wsL_law) : ∀ (n k i : Nat) (x3 : Int32) (cells slots : Nat), i ≤ L → L + 1 ≤ i + 3 * n → x3 = nI i → i = 3 * k → cells = 50 + 6 * k → slots = 247822 + 307 * k → ∀ (cs : lw_CS) (ms : lw_MS) (ad bd : Nat → Nat) (x : pn_b) (g : Nat → Option Nat) (Lp : List pn_b) (H : Heap) (locs : List Loc) (ls : Array Slot), Rel cs ms → pn_ok g Lp cs.2.2.2.2.2.2.2.2.2.2.2.2.2.2.2.2.2.2.2.2.2.2.2.2.2.2.2.2 → va_P D vwCl (lw_X cI cJ cZ cO cs ms ad bd x g ++ pn_P cI cJ Lp) H → va_D (fun q : Nat => s.heap.size ≤ q) (lw_X cI cJ cZ cO cs ms ad bd x g ++ pn_P cI cJ Lp) → va_S (fun q : Nat => s.heap.size ≤ q) s.heap H locs → lv_has ls 4 [(0, .ref b), (1, .ref (ad 0)), (2, .ref (bd 0)), (3, .int x3)] → W p l e room_1 s m #[Value.ref b] below meth c H locs cells slots (lw_Z below #[Value.ref b] s) (F0 m 18 ls []) := by
  obtain ⟨hx, hb, hr, hml, hown, hts, hlocks, hnm, hK, hA⟩ := id C
  have hbA : ¬ (fun q : Nat => s.heap.size ≤ q) b := Nat.not_le.mpr hbl
  intro n
  induction n with
  | zero =>
    intro k i x3 cells slots h1 h2
    exact absurd h2 (by omega)
  | succ n ih =>
    intro k i x3 cells slots hiL hin ex3 eik ec es cs ms ad bd x g Lp H locs ls hR hok hP hD hS hl
    refine lv_iload_n hx hb dL_law_18 rfl (lv_at hl 3 rfl) ?_
    refine lv_aload_n hx hb dL_law_19 rfl (lv_at hl 0 rfl) ?_
    refine va_slen hx hb hX hbl hbA hS dL_law_20 ?_
    refine lv_iconst (v := 3) hx hb dL_law_21 (by decide) ?_
    refine lv_isub hx hb dL_law_22 ?_
    have eLi : (Int32.ofNat L - 3).toInt = (L : Int) - 3 := by
      have h := pk_sub_toInt (a := L) (b := 3) (by omega) (by omega)
      exact h
    have exi : x3.toInt = (i : Int) := by rw [ex3]; exact nI_toInt (by omega)
    refine lv_icmp_gt (tgt := 590) hx hb dL_law_23 (by decide) (fun c1 => ?_) (fun c1 => ?_)
    · refine lv_iconst (v := 1) hx hb dL_law_590 (by decide) ?_
      refine va_forget (fun q hq => hS.2.2 q hq) ?_
      refine W.widen (k := 600000) (n := 7302250) (by omega) (by omega) ?_
      exact lw_ret hx hb hr hlocks dL_law_591
    · have hi3 : i + 3 ≤ L := by
        rw [Int32.lt_iff_toInt_lt, eLi, exi] at c1
        omega
      have h0 : vp_in x3 L := by rw [ex3]; exact vp_in_nI (by omega) (by omega)
      have h1 : vp_in (x3 + 1) L := by rw [ex3, nI_1]; exact vp_in_nI (by omega) (by omega)
      have h2 : vp_in (x3 + 2) L := by rw [ex3, show (2 : Int32) = nI 2 from rfl, nI_add]; exact vp_in_nI (by omega) (by omega)
      have hc : cells + 6 ≤ 600000 ∧ slots + 307 ≤ 7302250 := by constructor <;> omega
      have hgo : ∀ (cs : lw_CS) (ms : lw_MS) (ad bd : Nat → Nat) (x : pn_b) (g : Nat → Option Nat) (Lp : List pn_b) (H : Heap) (locs : List Loc) (ls : Array Slot) (cells1 slots1 : Nat), cells1 ≤ cells + 6 → slots1 ≤ slots + 307 → Rel cs ms → pn_ok g Lp cs.2.2.2.2.2.2.2.2.2.2.2.2.2.2.2.2.2.2.2.2.2.2.2.2.2.2.2.2 → va_P D vwCl (lw_X cI cJ cZ cO cs ms ad bd x g ++ pn_P cI cJ Lp) H → va_D (fun q : Nat => s.heap.size ≤ q) (lw_X cI cJ cZ cO cs ms ad bd x g ++ pn_P cI cJ Lp) → va_S (fun q : Nat => s.heap.size ≤ q) s.heap H locs → lv_has ls 4 [(0, .ref b), (1, .ref (ad 0)), (2, .ref (bd 0)), (3, .int x3)] → W p l e room_1 s m #[Value.ref b] below meth c H locs cells1 slots1 (lw_Z below #[Value.ref b] s) (F0 m 584 ls []) := by
        intro cs ms ad bd x g Lp H locs ls cells1 slots1 q1 q2 hR hok hP hD hS hl
        obtain ⟨x4, ex4⟩ : ∃ z : Int32, z = x3 + 3 := ⟨_, rfl⟩
        refine lv_iinc (v := x4) (lv' := [(3, .int x4), (0, .ref b), (1, .ref (ad 0)), (2, .ref (bd 0))]) hx hb dL_law_584 hl (k := 3) rfl (by rw [ex4]; rfl) (by decide) rfl (fun ls hl => ?_)
        refine lv_goto (tgt := 18) hx hb dL_law_587 (by decide) ?_
        refine W.widen (k := cells + 6) (n := slots + 307) q1 q2 ?_
        exact ih (k + 1) (i + 3) x4 _ _ hi3 (by omega) (by rw [ex4, ex3, show (3 : Int32) = nI 3 from rfl, nI_add]) (by omega) (by omega) (by omega) cs ms ad bd x g Lp H locs ls hR hok hP hD hS (lv_sub hl [1, 2, 3, 0] rfl)
      refine lv_aload_n hx hb dL_law_26 rfl (lv_at hl 0 rfl) ?_
      refine lv_iload_n hx hb dL_law_27 rfl (lv_at hl 3 rfl) ?_
      refine va_sld hx hb hX hbl hbA hS h0 dL_law_28 ?_
      refine lv_bipush (v := 31) hx hb dL_law_29 (by decide) ?_
      refine lv_iand hx hb dL_law_31 ?_
      refine lv_topi (fun y ey => ?_)
      by_cases c10 : y = 0
      · refine lv_tableIn (off := 88) (tgt := 120) hx hb dL_law_32 (by rw [c10]; decide) (by rw [c10]; decide) (by rw [c10]; rfl) (by decide) ?_
        exact lo_task Rel S_task x3 hX hbl h1 h2 C cells slots hc hgo cs ms ad bd x g Lp H locs ls hR hok hP hD hS hl
      by_cases c11 : y = 1
      · refine lv_tableIn (off := 111) (tgt := 143) hx hb dL_law_32 (by rw [c11]; decide) (by rw [c11]; decide) (by rw [c11]; rfl) (by decide) ?_
        exact lo_weigh Rel S_weigh x3 hX hbl h1 h2 C cells slots hc hgo cs ms ad bd x g Lp H locs ls hR hok hP hD hS hl
      by_cases c12 : y = 2
      · refine lv_tableIn (off := 144) (tgt := 176) hx hb dL_law_32 (by rw [c12]; decide) (by rw [c12]; decide) (by rw [c12]; rfl) (by decide) ?_
        exact lo_tie Rel S_tie x3 hX hbl h1 h2 C cells slots hc hgo cs ms ad bd x g Lp H locs ls hR hok hP hD hS hl
      by_cases c13 : y = 3
      · refine lv_tableIn (off := 177) (tgt := 209) hx hb dL_law_32 (by rw [c13]; decide) (by rw [c13]; decide) (by rw [c13]; rfl) (by decide) ?_
        exact lo_untie Rel S_untie x3 hX hbl h1 h2 C cells slots hc hgo cs ms ad bd x g Lp H locs ls hR hok hP hD hS hl
      by_cases c14 : y = 4
      · refine lv_tableIn (off := 210) (tgt := 242) hx hb dL_law_32 (by rw [c14]; decide) (by rw [c14]; decide) (by rw [c14]; rfl) (by decide) ?_
        exact lo_gather Rel S_gather x3 hX hbl h1 h2 C cells slots hc hgo cs ms ad bd x g Lp H locs ls hR hok hP hD hS hl
      by_cases c15 : y = 5
      · refine lv_tableIn (off := 243) (tgt := 275) hx hb dL_law_32 (by rw [c15]; decide) (by rw [c15]; decide) (by rw [c15]; rfl) (by decide) ?_
        exact lo_commit Rel S_commit x3 hX hbl h1 h2 C cells slots hc hgo cs ms ad bd x g Lp H locs ls hR hok hP hD hS hl
      by_cases c16 : y = 6
      · refine lv_tableIn (off := 256) (tgt := 288) hx hb dL_law_32 (by rw [c16]; decide) (by rw [c16]; decide) (by rw [c16]; rfl) (by decide) ?_
        exact lo_undo Rel S_undo x3 hX hbl h1 h2 C cells slots hc hgo cs ms ad bd x g Lp H locs ls hR hok hP hD hS hl
      by_cases c17 : y = 7
      · refine lv_tableIn (off := 269) (tgt := 301) hx hb dL_law_32 (by rw [c17]; decide) (by rw [c17]; decide) (by rw [c17]; rfl) (by decide) ?_
        exact lo_place Rel S_place x3 hX hbl h1 h2 C cells slots hc hgo cs ms ad bd x g Lp H locs ls hR hok hP hD hS hl
      by_cases c18 : y = 8
      · refine lv_tableIn (off := 292) (tgt := 324) hx hb dL_law_32 (by rw [c18]; decide) (by rw [c18]; decide) (by rw [c18]; rfl) (by decide) ?_
        exact lo_at Rel S_at x3 hX hbl h1 h2 C cells slots hc hgo cs ms ad bd x g Lp H locs ls hR hok hP hD hS hl
      by_cases c19 : y = 9
      · refine lv_tableIn (off := 315) (tgt := 347) hx hb dL_law_32 (by rw [c19]; decide) (by rw [c19]; decide) (by rw [c19]; rfl) (by decide) ?_
        exact lo_count Rel S_count x3 hX hbl h1 h2 C cells slots hc hgo cs ms ad bd x g Lp H locs ls hR hok hP hD hS hl
      by_cases c20 : y = 10
      · refine lv_tableIn (off := 338) (tgt := 370) hx hb dL_law_32 (by rw [c20]; decide) (by rw [c20]; decide) (by rw [c20]; rfl) (by decide) ?_
        exact lo_reaches Rel S_reaches x3 hX hbl h1 h2 C cells slots hc hgo cs ms ad bd x g Lp H locs ls hR hok hP hD hS hl
      by_cases c21 : y = 11
      · refine lv_tableIn (off := 371) (tgt := 403) hx hb dL_law_32 (by rw [c21]; decide) (by rw [c21]; decide) (by rw [c21]; rfl) (by decide) ?_
        exact lo_tied Rel S_tied x3 hX hbl h1 h2 C cells slots hc hgo cs ms ad bd x g Lp H locs ls hR hok hP hD hS hl
      by_cases c22 : y = 12
      · refine lv_tableIn (off := 404) (tgt := 436) hx hb dL_law_32 (by rw [c22]; decide) (by rw [c22]; decide) (by rw [c22]; rfl) (by decide) ?_
        exact lo_witness Rel S_witness x3 hX hbl h1 h2 C cells slots hc hgo cs ms ad bd x g Lp H locs ls hR hok hP hD hS hl
      by_cases c23 : y = 13
      · refine lv_tableIn (off := 427) (tgt := 459) hx hb dL_law_32 (by rw [c23]; decide) (by rw [c23]; decide) (by rw [c23]; rfl) (by decide) ?_
        exact lo_time Rel S_time x3 hX hbl h1 h2 C cells slots hc hgo cs ms ad bd x g Lp H locs ls hR hok hP hD hS hl
      by_cases c24 : y = 14
      · refine lv_tableIn (off := 460) (tgt := 492) hx hb dL_law_32 (by rw [c24]; decide) (by rw [c24]; decide) (by rw [c24]; rfl) (by decide) ?_
        exact lo_critical Rel S_critical x3 hX hbl h1 h2 C cells slots hc hgo cs ms ad bd x g Lp H locs ls hR hok hP hD hS hl
      by_cases c25 : y = 15
      · refine lv_tableIn (off := 483) (tgt := 515) hx hb dL_law_32 (by rw [c25]; decide) (by rw [c25]; decide) (by rw [c25]; rfl) (by decide) ?_
        exact lo_plan Rel S_plan x3 hX hbl h1 h2 C cells slots hc hgo cs ms ad bd x g Lp H locs ls hR hok hP hD hS hl
      by_cases c26 : y = 16
      · refine lv_tableIn (off := 506) (tgt := 538) hx hb dL_law_32 (by rw [c26]; decide) (by rw [c26]; decide) (by rw [c26]; rfl) (by decide) ?_
        exact lo_planned Rel S_planned x3 hX hbl h1 h2 C cells slots hc hgo cs ms ad bd x g Lp H locs ls hR hok hP hD hS hl
      by_cases c27 : y = 17
      · refine lv_tableIn (off := 539) (tgt := 571) hx hb dL_law_32 (by rw [c27]; decide) (by rw [c27]; decide) (by rw [c27]; rfl) (by decide) ?_
        exact lo_check Rel S_check x3 hX hbl h1 h2 C cells slots hc hgo cs ms ad bd x g Lp H locs ls hR hok hP hD hS hl
      refine lv_tableOut (tgt := 584) hx hb dL_law_32 (by have e0 := gb_ne (z := 0) c10 (by decide); have e1 := gb_ne (z := 1) c11 (by decide); have e2 := gb_ne (z := 2) c12 (by decide); have e3 := gb_ne (z := 3) c13 (by decide); have e4 := gb_ne (z := 4) c14 (by decide); have e5 := gb_ne (z := 5) c15 (by decide); have e6 := gb_ne (z := 6) c16 (by decide); have e7 := gb_ne (z := 7) c17 (by decide); have e8 := gb_ne (z := 8) c18 (by decide); have e9 := gb_ne (z := 9) c19 (by decide); have e10 := gb_ne (z := 10) c20 (by decide); have e11 := gb_ne (z := 11) c21 (by decide); have e12 := gb_ne (z := 12) c22 (by decide); have e13 := gb_ne (z := 13) c23 (by decide); have e14 := gb_ne (z := 14) c24 (by decide); have e15 := gb_ne (z := 15) c25 (by decide); have e16 := gb_ne (z := 16) c26 (by decide); have e17 := gb_ne (z := 17) c27 (by decide); omega) (by decide) ?_
      exact hgo cs ms ad bd x g Lp H locs ls cells slots (by omega) (by omega) hR hok hP hD hS hl
