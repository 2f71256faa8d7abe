/-! MY BASE: one shape of contract for every method (no new cell, or some), its start, its ends, its calls -/
def gb_nests : List (String × Nat × MethodName × String) := [(RX7, 9, yX2_init, "OrderKeeper"), (RX7, 18, yX1_init, "OrderKeeper"), (RX7, 25, yX0_init, "OrderKeeper"), (RX7, 32, yX3_init, "OrderKeeper"), (RX3, 11, yX2_init, "OrderKeeper"), (RX7, 39, yX4_init, "OrderKeeper"), (RX7, 46, yX6_init, "OrderKeeper"), (RX7, 53, yX5_init, "OrderKeeper"), (RX2, 45, yX7_has, "OrderKeeper"), (RX2, 49, yX7_bit, "OrderKeeper"), (RX1, 41, yX7_has, "OrderKeeper"), (RX5, 56, yX7_bit, "OrderKeeper"), (RX5, 74, yX7_has, "OrderKeeper")]
def gb_N (U : State) : Prop := (∀ q ∈ gb_nests, va_Nw (.methodLinkNest q.1 q.2.1 q.2.2.1 q.2.2.2) U) ∧ va_AO RX2 U
theorem gb_N.warm {s U : State} (hW : s.WarmedH U.vm) (h : gb_N s) : gb_N U := ⟨fun q hq => va_Nw.warmM hW (h.1 q hq), va_AO.moved hW.alike h.2⟩
theorem gb_N.same {u U : State} (e : u.vm = U.vm) (h : gb_N u) : gb_N U := ⟨fun q hq => va_Nw.same rfl e (h.1 q hq), va_AO.moved (by rw [e]; exact Vm.Alike.refl U.vm) h.2⟩
abbrev gb_T (cI cJ cZ cO : ClassId) : List (ClassId × FieldType) := [(cI, .int), (cJ, .long), (cZ, .boolean), (cO, .object RX2)]
def gb_K (D : va_G) (cI cJ cZ cO : ClassId) (U : State) : Prop := va_K D vwCl (gb_T cI cJ cZ cO) U ∧ gb_N U
theorem gb_K.warm {D : va_G} {cI cJ cZ cO : ClassId} {s U : State} (hW : s.WarmedH U.vm) (h : gb_K D cI cJ cZ cO s) : gb_K D cI cJ cZ cO U := ⟨va_K.moved hW.alike h.1, h.2.warm hW⟩
def gb_Pc (D : va_G) (cI cJ cZ cO : ClassId) (avs : List Value) (w : va_W) (sz : Nat) : Array Value → State → Prop := va_Pc avs (fun U => U.heap.size = sz ∧ va_P D vwCl w U.heap ∧ gb_K D cI cJ cZ cO U ∧ va_D (fun _ => True) w)
theorem gb_blind {D : va_G} {cI cJ cZ cO : ClassId} {avs : List Value} {w : va_W} {sz : Nat} : FrameBlind (gb_Pc D cI cJ cZ cO avs w sz) := fun a U g mk q => by
  obtain ⟨q0, q1, qP, qK, qD⟩ := q
  exact ⟨q0, q1, qP, ⟨va_K.moved (u := U) (U := U.calling g mk a) (Vm.Alike.refl U.vm) qK.1, qK.2.same rfl⟩, qD⟩
def gb_B (D : va_G) {S : Type} (wf : S → va_W) (A : Nat → Prop) (u : S) (t : State) : Prop := va_P D vwCl (wf u) t.heap ∧ va_D A (wf u)
def gb_Ci (D : va_G) (cI cJ cZ cO : ClassId) (l : Launch) (y : MethodName) (ws : List Cond) (rm : Room) (avs : List Value) (w : va_W) {S : Type} (post : Int32 → S → Prop) (wf : S → va_W) (mc ms : Nat) : Prop := ∀ sz : Nat, Met l y ws rm (gb_Pc D cI cJ cZ cO avs w sz) (va_Qi post (gb_B D wf (va_A w sz)) (va_A w sz)) mc ms (va_A w sz)
def gb_Cl (D : va_G) (cI cJ cZ cO : ClassId) (l : Launch) (y : MethodName) (ws : List Cond) (rm : Room) (avs : List Value) (w : va_W) {S : Type} (post : Int64 → S → Prop) (wf : S → va_W) (mc ms : Nat) : Prop := ∀ sz : Nat, Met l y ws rm (gb_Pc D cI cJ cZ cO avs w sz) (va_Ql post (gb_B D wf (va_A w sz)) (va_A w sz)) mc ms (va_A w sz)
def gb_Cv (D : va_G) (cI cJ cZ cO : ClassId) (l : Launch) (y : MethodName) (ws : List Cond) (rm : Room) (avs : List Value) (w : va_W) {S : Type} (post : S → Prop) (wf : S → va_W) (mc ms : Nat) : Prop := ∀ sz : Nat, Met l y ws rm (gb_Pc D cI cJ cZ cO avs w sz) (va_Qv post (gb_B D wf (va_A w sz)) (va_A w sz)) mc ms (va_A w sz)
/-- what stands at every point of a method -/
def gb_At (D : va_G) (cI cJ cZ cO : ClassId) (p : Program) (s : State) (m : MethodId) (meth : Method) (c : Code) (args : Array Value) (A : Nat → Prop) (y : MethodName) (cc : ByteArray) (ret : Option FieldType) (nL : Nat) (ws : List Cond) : Prop :=
  p.tables.exec = Jvm.exec ∧ c.code = cc ∧ meth.sig.returnType = ret ∧ c.maxLocals = nL ∧ s.vm.findClass y.cls = some m.cls ∧ (∀ w ∈ ws, w.before args s = true) ∧ meth.locks = false ∧ meth.name = y.name ∧ gb_K D cI cJ cZ cO s ∧ ∀ q : Nat, s.heap.size ≤ q → A q
def gb_shl (x : Int64) (y : Int32) : Int64 := x <<< (y.toInt64 &&& 63)
def gb_shr (x : Int64) (y : Int32) : Int64 := x >>> (y.toInt64 &&& 63)
def gb_ushr (x : Int64) (y : Int32) : Int64 := (x.toUInt64 >>> (y.toInt64.toUInt64 &&& Int64.toUInt64 63)).toInt64
def gb_max (x y : Int32) : Int32 := if x < y then y else x
def gb_min (x y : Int32) : Int32 := if y < x then y else x
theorem gb_ne {x k : Int32} {z : Int} (h : ¬ x = k) (e : k.toInt = z) : ¬ x.toInt = z := fun q => h (Int32.toInt_inj.mp (q.trans e.symm))
section GBM
variable {D : va_G} {cI cJ cZ cO : ClassId} {l : Launch} {y : MethodName} {ws ws' : List Cond} {rm : Room} {avs : List Value} {w : va_W} {S : Type} {wf : S → va_W} {mc ms : Nat} {cc : ByteArray} {maxL : Nat} {ret : Option FieldType}
theorem gb_m {QF : (Nat → Prop) → Array Value → State → Outcome → State → Prop} (hy : plainName y.cls = true) (hw : ws = Cond.code y cc maxL ret :: ws') (hlen : (lg_sl avs).length ≤ maxL)
    (body : ∀ (p : Program) (e : Env) (s : State) (m : MethodId) (below : List Frame) (meth : Method) (c : Code) (A : Nat → Prop), gb_At D cI cJ cZ cO p s m meth c avs.toArray A y cc ret maxL ws → va_P D vwCl w s.heap → va_D A w → va_S A s.heap s.heap [] → ∀ ls : Array Slot, lv_has ls maxL (lv_args 0 avs) → W p l e rm s m avs.toArray below meth c s.heap [] 0 0 (MQ below (QF A) avs.toArray s mc ms A) (F0 m 0 ls [])) :
    ∀ sz : Nat, Met l y ws rm (gb_Pc D cI cJ cZ cO avs w sz) (QF (va_A w sz)) mc ms (va_A w sz) := by
  intro sz
  refine Met.ofW (cc := cc) (maxL := maxL) (ret := ret) hy hw ?_
  intro p e s m args below meth c s₁ B hml hv
  obtain ⟨rfl, hsz, hP, hK, hD0⟩ := hv
  subst hsz
  have hl := lv_entry avs (n := maxL) hlen
  rw [lg_entry_eq]
  exact body p e s m below meth c (va_A w s.heap.size) ⟨B.exec, B.bytes, B.returns, hml, findClass_of_methodNamed B.named, atoms_spec (ws := ws) B.pre, B.notSynchronized, (name_of_methodNamed B.named B.method).1, hK, fun q h => Or.inr h⟩ hP hD0.self va_S.rf _ hl
theorem gb_mi {post : Int32 → S → Prop} (hy : plainName y.cls = true) (hw : ws = Cond.code y cc maxL ret :: ws') (hlen : (lg_sl avs).length ≤ maxL)
    (body : ∀ (p : Program) (e : Env) (s : State) (m : MethodId) (below : List Frame) (meth : Method) (c : Code) (A : Nat → Prop), gb_At D cI cJ cZ cO p s m meth c avs.toArray A y cc ret maxL ws → va_P D vwCl w s.heap → va_D A w → va_S A s.heap s.heap [] → ∀ ls : Array Slot, lv_has ls maxL (lv_args 0 avs) → W p l e rm s m avs.toArray below meth c s.heap [] 0 0 (MQ below (va_Qi post (gb_B D wf A) A) avs.toArray s mc ms A) (F0 m 0 ls [])) : gb_Ci D cI cJ cZ cO l y ws rm avs w post wf mc ms := gb_m (QF := fun A => va_Qi post (gb_B D wf A) A) hy hw hlen body
theorem gb_ml {post : Int64 → S → Prop} (hy : plainName y.cls = true) (hw : ws = Cond.code y cc maxL ret :: ws') (hlen : (lg_sl avs).length ≤ maxL)
    (body : ∀ (p : Program) (e : Env) (s : State) (m : MethodId) (below : List Frame) (meth : Method) (c : Code) (A : Nat → Prop), gb_At D cI cJ cZ cO p s m meth c avs.toArray A y cc ret maxL ws → va_P D vwCl w s.heap → va_D A w → va_S A s.heap s.heap [] → ∀ ls : Array Slot, lv_has ls maxL (lv_args 0 avs) → W p l e rm s m avs.toArray below meth c s.heap [] 0 0 (MQ below (va_Ql post (gb_B D wf A) A) avs.toArray s mc ms A) (F0 m 0 ls [])) : gb_Cl D cI cJ cZ cO l y ws rm avs w post wf mc ms := gb_m (QF := fun A => va_Ql post (gb_B D wf A) A) hy hw hlen body
theorem gb_mv {post : S → Prop} (hy : plainName y.cls = true) (hw : ws = Cond.code y cc maxL ret :: ws') (hlen : (lg_sl avs).length ≤ maxL)
    (body : ∀ (p : Program) (e : Env) (s : State) (m : MethodId) (below : List Frame) (meth : Method) (c : Code) (A : Nat → Prop), gb_At D cI cJ cZ cO p s m meth c avs.toArray A y cc ret maxL ws → va_P D vwCl w s.heap → va_D A w → va_S A s.heap s.heap [] → ∀ ls : Array Slot, lv_has ls maxL (lv_args 0 avs) → W p l e rm s m avs.toArray below meth c s.heap [] 0 0 (MQ below (va_Qv post (gb_B D wf A) A) avs.toArray s mc ms A) (F0 m 0 ls [])) : gb_Cv D cI cJ cZ cO l y ws rm avs w post wf mc ms := gb_m (QF := fun A => va_Qv post (gb_B D wf A) A) hy hw hlen body
end GBM
section GBW
variable {D : va_G} {cI cJ cZ cO : ClassId} {p : Program} {l : Launch} {e : Env} {R : Room} {s : State} {m : MethodId} {args : Array Value} {below : List Frame} {meth : Method} {c : Code} {H : Heap} {locs : List Loc} {cells slots mc ms : Nat} {Q : State → Prop}
variable {A : Nat → Prop} {y0 : MethodName} {cc : ByteArray} {nL : Nat} {Ts : List Cond} {S : Type} {wf : S → va_W} {pc : Nat} {ls : Array Slot} {ret0 : Option FieldType}
theorem gb_reti {post : Int32 → S → Prop} {v : Int32} (C : gb_At D cI cJ cZ cO p s m meth c args A y0 cc (some .int) nL Ts) (u : S) (hP : va_P D vwCl (wf u) H) (hD : va_D A (wf u)) (hS : va_S A s.heap H locs) (h : post v u) (hdg : decode cc pc = .ok (.ireturn, 1)) : W p l e R s m args below meth c H locs mc ms (MQ below (va_Qi post (gb_B D wf A) A) args s mc ms A) (F0 m pc ls [.int v]) := by
  obtain ⟨hx, hb, hr, hml, hown, hts, hlocks, hnm, hK, hA⟩ := C
  exact W.iret (v := v) hx hb hr (fun t ht hW => ⟨⟨v, u, rfl, h, by rw [ht]; exact hP, hD⟩, hS.F ht⟩) hS.2.2 hdg
theorem gb_retz {post : Int32 → S → Prop} {v : Int32} (C : gb_At D cI cJ cZ cO p s m meth c args A y0 cc (some .boolean) nL Ts) (u : S) (hP : va_P D vwCl (wf u) H) (hD : va_D A (wf u)) (hS : va_S A s.heap H locs) (hv : v = 0 ∨ v = 1) (h : post v u) (hdg : decode cc pc = .ok (.ireturn, 1)) : W p l e R s m args below meth c H locs mc ms (MQ below (va_Qi post (gb_B D wf A) A) args s mc ms A) (F0 m pc ls [.int v]) := by
  obtain ⟨hx, hb, hr, hml, hown, hts, hlocks, hnm, hK, hA⟩ := C
  exact W.zret (v := v) hx hb hr (by rcases hv with rfl | rfl <;> rfl) (fun t ht hW => ⟨⟨v, u, rfl, h, by rw [ht]; exact hP, hD⟩, hS.F ht⟩) hS.2.2 hdg
theorem gb_retl {post : Int64 → S → Prop} {v : Int64} (C : gb_At D cI cJ cZ cO p s m meth c args A y0 cc (some .long) nL Ts) (u : S) (hP : va_P D vwCl (wf u) H) (hD : va_D A (wf u)) (hS : va_S A s.heap H locs) (h : post v u) (hdg : decode cc pc = .ok (.lreturn, 1)) : W p l e R s m args below meth c H locs mc ms (MQ below (va_Ql post (gb_B D wf A) A) args s mc ms A) (F0 m pc ls [.long v]) := by
  obtain ⟨hx, hb, hr, hml, hown, hts, hlocks, hnm, hK, hA⟩ := C
  exact W.lret (v := v) hx hb hr (fun t ht hW => ⟨⟨v, u, rfl, h, by rw [ht]; exact hP, hD⟩, hS.F ht⟩) hS.2.2 hdg
theorem gb_retv {post : S → Prop} (C : gb_At D cI cJ cZ cO p s m meth c args A y0 cc none nL Ts) (u : S) (hP : va_P D vwCl (wf u) H) (hD : va_D A (wf u)) (hS : va_S A s.heap H locs) (h : post u) (hdg : decode cc pc = .ok (.return_, 1)) : W p l e R s m args below meth c H locs mc ms (MQ below (va_Qv post (gb_B D wf A) A) args s mc ms A) (F0 m pc ls []) := by
  obtain ⟨hx, hb, hr, hml, hown, hts, hlocks, hnm, hK, hA⟩ := C
  exact W.vret hx hb hr (fun t ht hW => ⟨⟨u, rfl, h, by rw [ht]; exact hP, hD⟩, hS.F ht⟩) hS.2.2 hdg
variable {y : MethodName} {bytes : ByteArray} {maxL n index : Nat} {ret : Option FieldType} {wsc : List Cond} {rm : Room} {As rest st0 : List Value} {b : Nat} {Cn host : String} {w wc wr : va_W}
theorem gb_preV {sz : Nat} (C : gb_At D cI cJ cZ cO p s m meth c args A y0 cc ret0 nL Ts) (hP : va_P D vwCl wc H) (hD : va_D A wc) {ci q0 : Nat} {q : vw_C} {fs : List Value} (hc : vwCl[ci]? = some q) (he : wc[q0]? = some (b, .inr (ci, fs))) (hq : q.1 = Cn) (hsz : H.size = sz) : PreV s H Cn b (gb_Pc D cI cJ cZ cO (.ref b :: As) wc sz) As := by
  obtain ⟨hx, hb, hr, hml, hown, hts, hlocks, hnm, hK, hA⟩ := C
  subst hq
  exact ⟨gb_blind, va_recv hK.1 hP hc he, fun U hU hW => ⟨rfl, by rw [hU]; exact hsz, by rw [hU]; exact hP, hK.warm hW, hD.weaken (fun _ _ _ _ => trivial)⟩⟩
theorem gb_preS {sz : Nat} (C : gb_At D cI cJ cZ cO p s m meth c args A y0 cc ret0 nL Ts) (hP : va_P D vwCl wc H) (hD : va_D A wc) (hsz : H.size = sz) : PreS s H (gb_Pc D cI cJ cZ cO As wc sz) As := by
  obtain ⟨hx, hb, hr, hml, hown, hts, hlocks, hnm, hK, hA⟩ := C
  exact ⟨gb_blind, fun U hU hW => ⟨rfl, by rw [hU]; exact hsz, by rw [hU]; exact hP, hK.warm hW, hD.weaken (fun _ _ _ _ => trivial)⟩⟩
theorem gb_fix {own : String} (C : gb_At D cI cJ cZ cO p s m meth c args A y0 cc ret0 nL Ts) (ho : y0.cls = own) : CallFix p m c cc nL s args Ts own := by
  obtain ⟨hx, hb, hr, hml, hown, hts, hlocks, hnm, hK, hA⟩ := C
  subst ho
  exact ⟨hx, hb, hml, hown, hts⟩
theorem gb_pcut (hP : va_P D vwCl w H) {isC : List Nat} (hC : isC.map (fun i => w[i]?) = wc.map some) : va_P D vwCl wc H := by
  refine hP.sub isC ?_
  have h2 : isC.filterMap (fun i => w[i]?) = (isC.map (fun i => w[i]?)).filterMap id := by rw [List.filterMap_map]; rfl
  rw [h2, hC, List.filterMap_map]
  exact List.filterMap_some
/-- behind a call with an int -/
theorem gb_ki {post : Int32 → S → Prop} {a : Array Value} (C : gb_At D cI cJ cZ cO p s m meth c args A y0 cc ret0 nL Ts) (hP : va_P D vwCl w H) (hD : va_D A w) (hS : va_S A s.heap H locs) (isC isR : List Nat) (hC : isC.map (fun i => w[i]?) = wc.map some) (hR : isR.map (fun i => w[i]?) = wr.map some) (hn : va_nd isC = true ∧ va_nd isR = true ∧ ∀ i ∈ isR, i ∉ isC)
    (hr : va_P D vwCl wc H → va_D A wc → va_Run p l e R s m args below meth c H locs cells slots mc ms (F0 m pc ls st0) rest (va_Qi post (gb_B D wf (va_A wc H.size)) (va_A wc H.size) a) (va_A wc H.size))
    (kk : ∀ (r : Int32) (u : S) (H1 : Heap) (locs1 : List Loc), post r u → va_P D vwCl (wr ++ wf u) H1 → va_D A (wr ++ wf u) → va_S A s.heap H1 locs1 → W p l e R s m args below meth c H1 locs1 (cells + mc) (slots + ms) Q (F0 m (pc + 3) ls (.int r :: rest))) : W p l e R s m args below meth c H locs cells slots Q (F0 m pc ls st0) := by
  obtain ⟨hx, hb, -, hml, hown, hts, hlocks, hnm, hK, hA⟩ := C
  have hF := va_free (wc := wc) hD hS hA isC hC
  refine va_calli (hr (gb_pcut hP hC) (hD.sub isC hn.1 hC)) hS (fun q _ h => hF q h) hF (fun r u t H1 locs1 ht hvm hp hB hz hk hS1 => ?_)
  obtain ⟨hP1, hD1⟩ := hB
  rw [ht] at hP1
  obtain ⟨hP2, hD2⟩ := va_join (wr := wr) (w1 := wf u) hP hD isC isR hC hR hn.2.1 hn.2.2 hk hF hP1 hD1
  exact kk r u H1 locs1 hp hP2 hD2 hS1
theorem gb_kl {post : Int64 → S → Prop} {a : Array Value} (C : gb_At D cI cJ cZ cO p s m meth c args A y0 cc ret0 nL Ts) (hP : va_P D vwCl w H) (hD : va_D A w) (hS : va_S A s.heap H locs) (isC isR : List Nat) (hC : isC.map (fun i => w[i]?) = wc.map some) (hR : isR.map (fun i => w[i]?) = wr.map some) (hn : va_nd isC = true ∧ va_nd isR = true ∧ ∀ i ∈ isR, i ∉ isC)
    (hr : va_P D vwCl wc H → va_D A wc → va_Run p l e R s m args below meth c H locs cells slots mc ms (F0 m pc ls st0) rest (va_Ql post (gb_B D wf (va_A wc H.size)) (va_A wc H.size) a) (va_A wc H.size))
    (kk : ∀ (r : Int64) (u : S) (H1 : Heap) (locs1 : List Loc), post r u → va_P D vwCl (wr ++ wf u) H1 → va_D A (wr ++ wf u) → va_S A s.heap H1 locs1 → W p l e R s m args below meth c H1 locs1 (cells + mc) (slots + ms) Q (F0 m (pc + 3) ls (.long r :: rest))) : W p l e R s m args below meth c H locs cells slots Q (F0 m pc ls st0) := by
  obtain ⟨hx, hb, -, hml, hown, hts, hlocks, hnm, hK, hA⟩ := C
  have hF := va_free (wc := wc) hD hS hA isC hC
  refine va_calll (hr (gb_pcut hP hC) (hD.sub isC hn.1 hC)) hS (fun q _ h => hF q h) hF (fun r u t H1 locs1 ht hvm hp hB hz hk hS1 => ?_)
  obtain ⟨hP1, hD1⟩ := hB
  rw [ht] at hP1
  obtain ⟨hP2, hD2⟩ := va_join (wr := wr) (w1 := wf u) hP hD isC isR hC hR hn.2.1 hn.2.2 hk hF hP1 hD1
  exact kk r u H1 locs1 hp hP2 hD2 hS1
theorem gb_kv {post : S → Prop} {a : Array Value} (C : gb_At D cI cJ cZ cO p s m meth c args A y0 cc ret0 nL Ts) (hP : va_P D vwCl w H) (hD : va_D A w) (hS : va_S A s.heap H locs) (isC isR : List Nat) (hC : isC.map (fun i => w[i]?) = wc.map some) (hR : isR.map (fun i => w[i]?) = wr.map some) (hn : va_nd isC = true ∧ va_nd isR = true ∧ ∀ i ∈ isR, i ∉ isC)
    (hr : va_P D vwCl wc H → va_D A wc → va_Run p l e R s m args below meth c H locs cells slots mc ms (F0 m pc ls st0) rest (va_Qv post (gb_B D wf (va_A wc H.size)) (va_A wc H.size) a) (va_A wc H.size))
    (kk : ∀ (u : S) (H1 : Heap) (locs1 : List Loc), post u → va_P D vwCl (wr ++ wf u) H1 → va_D A (wr ++ wf u) → va_S A s.heap H1 locs1 → W p l e R s m args below meth c H1 locs1 (cells + mc) (slots + ms) Q (F0 m (pc + 3) ls rest)) : W p l e R s m args below meth c H locs cells slots Q (F0 m pc ls st0) := by
  obtain ⟨hx, hb, -, hml, hown, hts, hlocks, hnm, hK, hA⟩ := C
  have hF := va_free (wc := wc) hD hS hA isC hC
  refine va_callv (hr (gb_pcut hP hC) (hD.sub isC hn.1 hC)) hS (fun q _ h => hF q h) hF (fun u t H1 locs1 ht hvm hp hB hz hk hS1 => ?_)
  obtain ⟨hP1, hD1⟩ := hB
  rw [ht] at hP1
  obtain ⟨hP2, hD2⟩ := va_join (wr := wr) (w1 := wf u) hP hD isC isR hC hR hn.2.1 hn.2.2 hk hF hP1 hD1
  exact kk u H1 locs1 hp hP2 hD2 hS1
/-- the run of a call, by kind -/
theorem gb_rV {Qc : Array Value → State → Outcome → State → Prop} {free : Addr → Prop} (C : gb_At D cI cJ cZ cO p s m meth c args A y0 cc ret0 nL Ts) (hM : Met l y wsc rm (gb_Pc D cI cJ cZ cO (.ref b :: As) wc H.size) Qc mc ms free) {own : String} (ho : y0.cls = own) (cw : CallW R s args own Cn index y bytes maxL ret wsc rm mc ms n) {ci q0 : Nat} {q : vw_C} {fs : List Value} (hc : vwCl[ci]? = some q) (he : wc[q0]? = some (b, .inr (ci, fs))) (hq : q.1 = Cn) (hn : As.length = n) (hsize : ls.size = nL) (hst : st0 = As.reverse ++ .ref b :: rest) (hroom : (rest.map fun v => v.category).sum ≤ 8) (hdg : decode cc pc = .ok (.invokevirtual index, 3)) (hf : cells + mc ≤ R.cells ∧ slots + ms ≤ R.slots) (hP : va_P D vwCl wc H) (hD : va_D A wc) :
    va_Run p l e R s m args below meth c H locs cells slots mc ms (F0 m pc ls st0) rest (Qc (Value.ref b :: As).toArray) free :=
  va_runV (gb_fix C ho) hM cw (gb_preV C hP hD hc he hq rfl) rfl hn hsize hst (lv_room hroom) hdg hf
theorem gb_rS {Qc : Array Value → State → Outcome → State → Prop} {free : Addr → Prop} (C : gb_At D cI cJ cZ cO p s m meth c args A y0 cc ret0 nL Ts) (hM : Met l y wsc rm (gb_Pc D cI cJ cZ cO As wc H.size) Qc mc ms free) {own : String} (ho : y0.cls = own) (cw : CallB R s args own index y bytes maxL ret wsc rm mc ms n ∧ (Cond.static y).before args s = true) (hn : As.length = n) (hsize : ls.size = nL) (hst : st0 = As.reverse ++ rest) (hroom : (rest.map fun v => v.category).sum ≤ 8) (hdg : decode cc pc = .ok (.invokestatic index, 3)) (hf : cells + mc ≤ R.cells ∧ slots + ms ≤ R.slots) (hP : va_P D vwCl wc H) (hD : va_D A wc) :
    va_Run p l e R s m args below meth c H locs cells slots mc ms (F0 m pc ls st0) rest (Qc As.toArray) free :=
  va_runS (gb_fix C ho) hM cw (gb_preS C hP hD rfl) rfl hn hsize hst (lv_room hroom) hdg hf
theorem gb_rSN {Qc : Array Value → State → Outcome → State → Prop} {free : Addr → Prop} (C : gb_At D cI cJ cZ cO p s m meth c args A y0 cc ret0 nL Ts) (hM : Met l y wsc rm (gb_Pc D cI cJ cZ cO As wc H.size) Qc mc ms free) {own : String} (ho : y0.cls = own) (cw : va_CN R s args own index y host bytes maxL ret wsc rm mc ms n ∧ (Cond.static y).before args s = true ∧ True) (hn : As.length = n) (hsize : ls.size = nL) (hst : st0 = As.reverse ++ rest) (hroom : (rest.map fun v => v.category).sum ≤ 8) (hdg : decode cc pc = .ok (.invokestatic index, 3)) (hf : cells + mc ≤ R.cells ∧ slots + ms ≤ R.slots) (hP : va_P D vwCl wc H) (hD : va_D A wc) :
    va_Run p l e R s m args below meth c H locs cells slots mc ms (F0 m pc ls st0) rest (Qc As.toArray) free :=
  va_runSN (gb_fix C ho) hM cw (gb_preS C hP hD rfl) rfl hn hsize hst (lv_room hroom) hdg hf
theorem gb_rIN {Qc : Array Value → State → Outcome → State → Prop} {free : Addr → Prop} (C : gb_At D cI cJ cZ cO p s m meth c args A y0 cc ret0 nL Ts) (hM : Met l y wsc rm (gb_Pc D cI cJ cZ cO (.ref b :: As) wc H.size) Qc mc ms free) {own : String} (ho : y0.cls = own) (cw : va_CN R s args own index y host bytes maxL none wsc rm mc ms n ∧ y.name = "<init>" ∧ (Cond.instanceMethod y).before args s = true) (hn : As.length = n) (hsize : ls.size = nL) (hst : st0 = As.reverse ++ .ref b :: rest) (hroom : (rest.map fun v => v.category).sum ≤ 8) (hdg : decode cc pc = .ok (.invokespecial index, 3)) (hf : cells + mc ≤ R.cells ∧ slots + ms ≤ R.slots) (hP : va_P D vwCl wc H) (hD : va_D A wc) :
    va_Run p l e R s m args below meth c H locs cells slots mc ms (F0 m pc ls st0) rest (Qc (Value.ref b :: As).toArray) free :=
  va_runIN (gb_fix C ho) hM cw (gb_preS C hP hD rfl) rfl hn hsize hst (lv_room hroom) hdg hf
end GBW
theorem gb_caI {D : va_G} {cl : List vw_C} {cI cJ cZ cO cA : ClassId} {s : State} (h : va_K D cl (gb_T cI cJ cZ cO ++ [(cA, .int)]) s) : cI = cA := by
  have h1 : s.vm.findClass _ = some cI := (h.2 0 (cI, .int) rfl).2
  have h2 : s.vm.findClass _ = some cA := (h.2 4 (cA, .int) rfl).2
  exact Option.some.inj (h1.symm.trans h2)
theorem gb_caJ {D : va_G} {cl : List vw_C} {cI cJ cZ cO cA : ClassId} {s : State} (h : va_K D cl (gb_T cI cJ cZ cO ++ [(cA, .long)]) s) : cJ = cA := by
  have h1 : s.vm.findClass _ = some cJ := (h.2 1 (cJ, .long) rfl).2
  have h2 : s.vm.findClass _ = some cA := (h.2 4 (cA, .long) rfl).2
  exact Option.some.inj (h1.symm.trans h2)
theorem gb_caZ {D : va_G} {cl : List vw_C} {cI cJ cZ cO cA : ClassId} {s : State} (h : va_K D cl (gb_T cI cJ cZ cO ++ [(cA, .boolean)]) s) : cZ = cA := by
  have h1 : s.vm.findClass _ = some cZ := (h.2 2 (cZ, .boolean) rfl).2
  have h2 : s.vm.findClass _ = some cA := (h.2 4 (cA, .boolean) rfl).2
  exact Option.some.inj (h1.symm.trans h2)
theorem gb_caO {D : va_G} {cl : List vw_C} {cI cJ cZ cO cA : ClassId} {s : State} (h : va_K D cl (gb_T cI cJ cZ cO ++ [(cA, .object RX2)]) s) : cO = cA := by
  obtain ⟨_, _, _, _, _, h1⟩ := (h.2 3 (cO, .object RX2) rfl).2
  obtain ⟨_, _, _, _, _, h2⟩ := (h.2 4 (cA, .object RX2) rfl).2
  exact Option.some.inj (h1.symm.trans h2)

