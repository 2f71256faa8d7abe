/-! THE POOL of the nets that the past keeps: a block of six cells each -/
abbrev pn_c : Type := (Nat → Int32) × (Nat → Int64) × (Nat → Int64) × (Nat → Int32) × (Nat → Int32) × Int32 × Int32
abbrev pn_b : Type := (Nat × Nat × Nat × Nat × Nat × Nat) × pn_c
abbrev pn_W (cI cJ : ClassId) (x : pn_b) : va_W := [(x.1.1, .inr (2, [.ref x.1.2.1, .ref x.1.2.2.1, .ref x.1.2.2.2.1, .ref x.1.2.2.2.2.1, .ref x.1.2.2.2.2.2, .int x.2.2.2.2.2.2.1, .int x.2.2.2.2.2.2.2])), (x.1.2.1, .inl (cI, 60, .inl x.2.1)), (x.1.2.2.1, .inl (cJ, 60, .inr (.inl x.2.2.1))), (x.1.2.2.2.1, .inl (cJ, 60, .inr (.inl x.2.2.2.1))), (x.1.2.2.2.2.1, .inl (cI, 60, .inl x.2.2.2.2.1)), (x.1.2.2.2.2.2, .inl (cI, 60, .inl x.2.2.2.2.2.1))]
def pn_P (cI cJ : ClassId) (L : List pn_b) : va_W := L.flatMap (fun x => pn_W cI cJ x)
/-- what the row of kept nets holds: K by its places, the blocks in L -/
def pn_ok (g : Nat → Option Nat) (L : List pn_b) (K : Nat → Option pn_c) : Prop :=
  (∀ i, i < 64 → g i = none → K i = none) ∧ (∀ i q, i < 64 → g i = some q → ∃ x ∈ L, x.1.1 = q ∧ K i = some x.2) ∧ ∀ i j, i < 64 → j < 64 → g i = g j → g i ≠ none → i = j
theorem pn_ok0 : pn_ok (fun _ => none) [] (fun _ => none) := ⟨fun _ _ _ => rfl, fun _ _ _ h => (by cases h), fun _ _ _ _ _ h => absurd rfl h⟩
theorem gb_Pp {D : va_G} {cl : List vw_C} {ws ws' : va_W} {H : Heap} (h : va_P D cl ws H) (hs : ∀ q ∈ ws', q ∈ ws) : va_P D cl ws' H := fun k q hk => by
  obtain ⟨i, hi⟩ := List.getElem?_of_mem (hs q (List.mem_of_getElem? hk))
  exact h i q hi
theorem gb_Dpw {A : Nat → Prop} {ws : va_W} : va_D A ws ↔ ws.Pairwise (fun a b => a.1 ≠ b.1) ∧ ∀ q ∈ ws, A q.1 := by
  constructor
  · intro h
    refine ⟨List.pairwise_iff_getElem.mpr (fun i j hi hj hij e => ?_), fun q hq => ?_⟩
    · have := h.1 i j ws[i] ws[j] (List.getElem?_eq_getElem hi) (List.getElem?_eq_getElem hj) e
      omega
    · obtain ⟨i, hi⟩ := List.getElem?_of_mem hq
      exact h.2 i q hi
  · intro h
    refine ⟨fun i j x y hi hj e => ?_, fun k q hk => h.2 q (List.mem_of_getElem? hk)⟩
    obtain ⟨li, rfl⟩ := List.getElem?_eq_some_iff.mp hi
    obtain ⟨lj, rfl⟩ := List.getElem?_eq_some_iff.mp hj
    have hp := List.pairwise_iff_getElem.mp h.1
    rcases Nat.lt_trichotomy i j with q | q | q
    · exact absurd e (hp i j li lj q)
    · exact q
    · exact absurd e.symm (hp j i lj li q)
theorem gb_Dp {A : Nat → Prop} {ws ws' : va_W} (h : va_D A ws) (p : ws.Perm ws') : va_D A ws' := by
  rw [gb_Dpw] at h ⊢
  exact ⟨(p.pairwise_iff (fun {x y} (q : x.1 ≠ y.1) => Ne.symm q)).mp h.1, fun q hq => h.2 q (p.mem_iff.mpr hq)⟩
theorem gb_PP {D : va_G} {cl : List vw_C} {ws ws' : va_W} {H : Heap} (h : va_P D cl ws H) (p : ws.Perm ws') : va_P D cl ws' H := gb_Pp h (fun _ hq => p.mem_iff.mpr hq)
theorem gb_Dl {A : Nat → Prop} {X pl : va_W} (h : va_D A (X ++ pl)) : va_D A X := by
  rw [gb_Dpw] at h ⊢
  exact ⟨(List.pairwise_append.mp h.1).1, fun q hq => h.2 q (List.mem_append_left _ hq)⟩
theorem gb_Dx {A : Nat → Prop} {X pl : va_W} (h : va_D A (X ++ pl)) {a b : Nat × va_E} (ha : a ∈ X) (hb : b ∈ pl) : a.1 ≠ b.1 := (List.pairwise_append.mp (gb_Dpw.mp h).1).2.2 a ha b hb
section GBP
variable {D : va_G} {cI cJ cZ cO : ClassId} {p : Program} {l : Launch} {e : Env} {R : Room} {s : State} {m : MethodId} {args : Array Value} {below : List Frame} {meth : Method} {c : Code} {H : Heap} {locs : List Loc} {cells slots mc ms : Nat} {Q : State → Prop}
variable {A : Nat → Prop} {y0 : MethodName} {cc : ByteArray} {nL : Nat} {Ts : List Cond} {S : Type} {wf rx pl1 : S → va_W} {pc : Nat} {ls : Array Slot} {ret0 : Option FieldType} {rest st0 : List Value} {X wc wr pl : va_W}
/-- behind a call that has no part of the pool -/
theorem gb_kiQ {post : Int32 → S → Prop} {a : Array Value} (C : gb_At D cI cJ cZ cO p s m meth c args A y0 cc ret0 nL Ts) (hP : va_P D vwCl (X ++ pl) H) (hD : va_D A (X ++ pl)) (hS : va_S A s.heap H locs) (isC isR : List Nat) (hC : isC.map (fun i => X[i]?) = wc.map some) (hR : isR.map (fun i => X[i]?) = wr.map some) (hn : va_nd isC = true ∧ va_nd isR = true ∧ ∀ i ∈ isR, i ∉ isC)
    (hr : va_P D vwCl wc H → va_D A wc → va_Run p l e R s m args below meth c H locs cells slots mc ms (F0 m pc ls st0) rest (va_Qi post (gb_B D wf (va_A wc H.size)) (va_A wc H.size) a) (va_A wc H.size))
    (kk : ∀ (r : Int32) (u : S) (H1 : Heap) (locs1 : List Loc), post r u → va_P D vwCl ((wr ++ wf u) ++ pl) H1 → va_D A ((wr ++ wf u) ++ pl) → va_S A s.heap H1 locs1 → W p l e R s m args below meth c H1 locs1 (cells + mc) (slots + ms) Q (F0 m (pc + 3) ls (.int r :: rest))) : W p l e R s m args below meth c H locs cells slots Q (F0 m pc ls st0) := by
  obtain ⟨hx, hb, -, hml, hown, hts, hlocks, hnm, hK, hA⟩ := C
  have hPX : va_P D vwCl X H := gb_Pp hP (fun q h => List.mem_append_left _ h)
  have hF := va_free (wc := wc) (gb_Dl hD) hS hA isC hC
  refine va_calli (hr (gb_pcut hPX hC) ((gb_Dl hD).sub isC hn.1 hC)) hS (fun q _ h => hF q h) hF (fun r u t H1 locs1 ht hvm hp hB hz hk hS1 => ?_)
  obtain ⟨hP1, hD1⟩ := hB
  rw [ht] at hP1
  obtain ⟨hP2, hD2⟩ := va_joinQ (wr := wr) (w1 := wf u) hP hD isC isR hC hR hn.2.1 hn.2.2 hk hF hP1 hD1
  exact kk r u H1 locs1 hp hP2 hD2 hS1
theorem gb_kvQ {post : S → Prop} {a : Array Value} (C : gb_At D cI cJ cZ cO p s m meth c args A y0 cc ret0 nL Ts) (hP : va_P D vwCl (X ++ pl) H) (hD : va_D A (X ++ pl)) (hS : va_S A s.heap H locs) (isC isR : List Nat) (hC : isC.map (fun i => X[i]?) = wc.map some) (hR : isR.map (fun i => X[i]?) = wr.map some) (hn : va_nd isC = true ∧ va_nd isR = true ∧ ∀ i ∈ isR, i ∉ isC)
    (hr : va_P D vwCl wc H → va_D A wc → va_Run p l e R s m args below meth c H locs cells slots mc ms (F0 m pc ls st0) rest (va_Qv post (gb_B D wf (va_A wc H.size)) (va_A wc H.size) a) (va_A wc H.size))
    (kk : ∀ (u : S) (H1 : Heap) (locs1 : List Loc), post u → va_P D vwCl ((wr ++ wf u) ++ pl) H1 → va_D A ((wr ++ wf u) ++ pl) → va_S A s.heap H1 locs1 → W p l e R s m args below meth c H1 locs1 (cells + mc) (slots + ms) Q (F0 m (pc + 3) ls rest)) : W p l e R s m args below meth c H locs cells slots Q (F0 m pc ls st0) := by
  obtain ⟨hx, hb, -, hml, hown, hts, hlocks, hnm, hK, hA⟩ := C
  have hPX : va_P D vwCl X H := gb_Pp hP (fun q h => List.mem_append_left _ h)
  have hF := va_free (wc := wc) (gb_Dl hD) hS hA isC hC
  refine va_callv (hr (gb_pcut hPX hC) ((gb_Dl hD).sub isC hn.1 hC)) hS (fun q _ h => hF q h) hF (fun u t H1 locs1 ht hvm hp hB hz hk hS1 => ?_)
  obtain ⟨hP1, hD1⟩ := hB
  rw [ht] at hP1
  obtain ⟨hP2, hD2⟩ := va_joinQ (wr := wr) (w1 := wf u) hP hD isC isR hC hR hn.2.1 hn.2.2 hk hF hP1 hD1
  exact kk u H1 locs1 hp hP2 hD2 hS1
/-- behind a call that has the pool -/
theorem gb_kiP {post : Int32 → S → Prop} {a : Array Value} (C : gb_At D cI cJ cZ cO p s m meth c args A y0 cc ret0 nL Ts) (hP : va_P D vwCl (X ++ pl) H) (hD : va_D A (X ++ pl)) (hS : va_S A s.heap H locs) (isC isR : List Nat) (hC : isC.map (fun i => X[i]?) = wc.map some) (hR : isR.map (fun i => X[i]?) = wr.map some) (hn : va_nd isC = true ∧ va_nd isR = true ∧ ∀ i ∈ isR, i ∉ isC)
    (hr : va_P D vwCl (wc ++ pl) H → va_D A (wc ++ pl) → va_Run p l e R s m args below meth c H locs cells slots mc ms (F0 m pc ls st0) rest (va_Qi post (gb_B D (fun u => rx u ++ pl1 u) (va_A (wc ++ pl) H.size)) (va_A (wc ++ pl) H.size) a) (va_A (wc ++ pl) H.size))
    (kk : ∀ (r : Int32) (u : S) (H1 : Heap) (locs1 : List Loc), post r u → va_P D vwCl ((wr ++ rx u) ++ pl1 u) H1 → va_D A ((wr ++ rx u) ++ pl1 u) → va_S A s.heap H1 locs1 → W p l e R s m args below meth c H1 locs1 (cells + mc) (slots + ms) Q (F0 m (pc + 3) ls (.int r :: rest))) : W p l e R s m args below meth c H locs cells slots Q (F0 m pc ls st0) := by
  obtain ⟨hx, hb, -, hml, hown, hts, hlocks, hnm, hK, hA⟩ := C
  have hF := va_freeP (cx := wc) hD hS hA isC hC
  refine va_calli (hr (hP.part isC hC) (hD.part isC hn.1 hC)) hS (fun q _ h => hF q h) hF (fun r u t H1 locs1 ht hvm hp hB hz hk hS1 => ?_)
  obtain ⟨hP1, hD1⟩ := hB
  rw [ht] at hP1
  obtain ⟨hP2, hD2⟩ := va_joinP (wr := wr) (rx := rx u) (pl1 := pl1 u) hP hD isC isR hC hR hn.2.1 hn.2.2 hk hF hP1 hD1
  exact kk r u H1 locs1 hp hP2 hD2 hS1
theorem gb_kvP {post : S → Prop} {a : Array Value} (C : gb_At D cI cJ cZ cO p s m meth c args A y0 cc ret0 nL Ts) (hP : va_P D vwCl (X ++ pl) H) (hD : va_D A (X ++ pl)) (hS : va_S A s.heap H locs) (isC isR : List Nat) (hC : isC.map (fun i => X[i]?) = wc.map some) (hR : isR.map (fun i => X[i]?) = wr.map some) (hn : va_nd isC = true ∧ va_nd isR = true ∧ ∀ i ∈ isR, i ∉ isC)
    (hr : va_P D vwCl (wc ++ pl) H → va_D A (wc ++ pl) → va_Run p l e R s m args below meth c H locs cells slots mc ms (F0 m pc ls st0) rest (va_Qv post (gb_B D (fun u => rx u ++ pl1 u) (va_A (wc ++ pl) H.size)) (va_A (wc ++ pl) H.size) a) (va_A (wc ++ pl) H.size))
    (kk : ∀ (u : S) (H1 : Heap) (locs1 : List Loc), post u → va_P D vwCl ((wr ++ rx u) ++ pl1 u) H1 → va_D A ((wr ++ rx u) ++ pl1 u) → va_S A s.heap H1 locs1 → W p l e R s m args below meth c H1 locs1 (cells + mc) (slots + ms) Q (F0 m (pc + 3) ls rest)) : W p l e R s m args below meth c H locs cells slots Q (F0 m pc ls st0) := by
  obtain ⟨hx, hb, -, hml, hown, hts, hlocks, hnm, hK, hA⟩ := C
  have hF := va_freeP (cx := wc) hD hS hA isC hC
  refine va_callv (hr (hP.part isC hC) (hD.part isC hn.1 hC)) hS (fun q _ h => hF q h) hF (fun u t H1 locs1 ht hvm hp hB hz hk hS1 => ?_)
  obtain ⟨hP1, hD1⟩ := hB
  rw [ht] at hP1
  obtain ⟨hP2, hD2⟩ := va_joinP (wr := wr) (rx := rx u) (pl1 := pl1 u) hP hD isC isR hC hR hn.2.1 hn.2.2 hk hF hP1 hD1
  exact kk u H1 locs1 hp hP2 hD2 hS1
end GBP
theorem pn_mem {cI cJ : ClassId} {L : List pn_b} {x : pn_b} (h : x ∈ L) {q : Nat × va_E} (hq : q ∈ pn_W cI cJ x) : q ∈ pn_P cI cJ L := List.mem_flatMap.mpr ⟨x, h, hq⟩
theorem pn_app {cI cJ : ClassId} (s t : List pn_b) : pn_P cI cJ (s ++ t) = pn_P cI cJ s ++ pn_P cI cJ t := List.flatMap_append
theorem pn_cons {cI cJ : ClassId} (x : pn_b) (t : List pn_b) : pn_P cI cJ (x :: t) = pn_W cI cJ x ++ pn_P cI cJ t := List.flatMap_cons
/-- a block of the pool goes ahead of it -/
theorem pn_out {cI cJ : ClassId} (X : va_W) (s t : List pn_b) (z : pn_b) : (X ++ pn_P cI cJ (s ++ z :: t)).Perm ((X ++ pn_W cI cJ z) ++ pn_P cI cJ (s ++ t)) := by
  rw [pn_app, pn_cons, pn_app, List.append_assoc]
  refine List.Perm.append_left X ?_
  rw [← List.append_assoc, ← List.append_assoc]
  exact List.Perm.append_right _ List.perm_append_comm
/-- the held block changes places with one behind it -/
theorem pn_swap {cI cJ : ClassId} (X Y Z pl : va_W) : (((X ++ Y) ++ Z) ++ pl).Perm ((X ++ Z) ++ (Y ++ pl)) := by
  rw [List.append_assoc X Y Z, List.append_assoc X Z, List.append_assoc X]
  refine List.Perm.append_left X ?_
  rw [← List.append_assoc Z Y]
  exact List.Perm.append_right _ List.perm_append_comm
theorem pn_ok_put {g : Nat → Option Nat} {L L0 : List pn_b} {K : Nat → Option pn_c} {x : pn_b} {n : Nat} (h : pn_ok g L K) (hn : n < 64) (h0 : ∀ i, i < 64 → i ≠ n → ∀ y ∈ L, g i = some y.1.1 → y ∈ L0) (hx : ∀ y ∈ L, y.1.1 ≠ x.1.1) : pn_ok (va_up g n (some x.1.1)) (x :: L0) (va_up K n (some x.2)) := by
  obtain ⟨h1, h2, h3⟩ := h
  refine ⟨fun i hi hg => ?_, fun i q hi hg => ?_, fun i j hi hj hg hne => ?_⟩
  · by_cases e : i = n
    · subst e; rw [va_up_self] at hg; cases hg
    · rw [va_up_ne _ _ e] at hg ⊢; exact h1 i hi hg
  · by_cases e : i = n
    · subst e; rw [va_up_self] at hg ⊢
      exact ⟨x, List.mem_cons_self, Option.some.inj hg, rfl⟩
    · rw [va_up_ne _ _ e] at hg ⊢
      obtain ⟨y, hy, e1, e2⟩ := h2 i q hi hg
      exact ⟨y, List.mem_cons_of_mem _ (h0 i hi e y hy (by rw [e1]; exact hg)), e1, e2⟩
  · by_cases e1 : i = n <;> by_cases e2 : j = n
    · omega
    · subst e1; rw [va_up_self, va_up_ne _ _ e2] at hg
      obtain ⟨y, hy, e3, -⟩ := h2 j _ hj hg.symm
      exact absurd e3 (hx y hy)
    · subst e2; rw [va_up_self, va_up_ne _ _ e1] at hg
      obtain ⟨y, hy, e3, -⟩ := h2 i _ hi hg
      exact absurd e3 (hx y hy)
    · rw [va_up_ne _ _ e1, va_up_ne _ _ e2] at hg
      rw [va_up_ne _ _ e1] at hne
      exact h3 i j hi hj hg hne
