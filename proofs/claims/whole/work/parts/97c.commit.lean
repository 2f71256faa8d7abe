/-! A BUNDLE: the states that its ties lead through -/
def stp (n : Nat) (a : An) (x y : Nat) (b : An) (c d : Nat) : Prop := (a.2.1 x y = true ∧ b = a ∧ d = c) ∨ (a.2.1 x y = false ∧ ¬ Rch a.2.1 y x ∧ cntE a.2.1 60 < 400 ∧ (∃ pl', isMend n a x y pl' ∧ b = putA a x y pl') ∧ d = c + 1)
def trc (n : Nat) (F T : Nat → Nat) (a0 : An) (m : Nat) (st : Nat → An) (cn : Nat → Nat) : Prop := st 0 = a0 ∧ cn 0 = 0 ∧ (∀ j, j ≤ m → rl_ok n (st j)) ∧ ∀ j, j < m → stp n (st j) (F j) (T j) (st (j + 1)) (cn j) (cn (j + 1))
theorem trc_0 {n : Nat} {F T : Nat → Nat} {a0 : An} (ok : rl_ok n a0) : trc n F T a0 0 (fun _ => a0) (fun _ => 0) := ⟨rfl, rfl, fun _ _ => ok, fun j hj => absurd hj (by omega)⟩
theorem trc_ext {n : Nat} {F T : Nat → Nat} {a0 b : An} {m c : Nat} {st : Nat → An} {cn : Nat → Nat} (h : trc n F T a0 m st cn) (okb : rl_ok n b) (hs : stp n (st m) (F m) (T m) b (cn m) c) : ∃ st2 cn2, trc n F T a0 (m + 1) st2 cn2 ∧ st2 (m + 1) = b ∧ cn2 (m + 1) = c := by
  refine ⟨fun j => if j ≤ m then st j else b, fun j => if j ≤ m then cn j else c, ⟨?_, ?_, fun j hj => ?_, fun j hj => ?_⟩, ?_, ?_⟩
  · show (if 0 ≤ m then st 0 else b) = a0
    rw [if_pos (Nat.zero_le m)]; exact h.1
  · show (if 0 ≤ m then cn 0 else c) = 0
    rw [if_pos (Nat.zero_le m)]; exact h.2.1
  · show rl_ok n (if j ≤ m then st j else b)
    by_cases q : j ≤ m
    · rw [if_pos q]; exact h.2.2.1 j q
    · rw [if_neg q]; exact okb
  · show stp n (if j ≤ m then st j else b) (F j) (T j) (if j + 1 ≤ m then st (j + 1) else b) (if j ≤ m then cn j else c) (if j + 1 ≤ m then cn (j + 1) else c)
    rw [if_pos (show j ≤ m by omega), if_pos (show j ≤ m by omega)]
    by_cases q : j + 1 ≤ m
    · rw [if_pos q, if_pos q]; exact h.2.2.2 j (by omega)
    · rw [if_neg q, if_neg q]
      have e : j = m := by omega
      rw [e]
      exact hs
  · show (if m + 1 ≤ m then _ else b) = b
    rw [if_neg (by omega)]
  · show (if m + 1 ≤ m then _ else c) = c
    rw [if_neg (by omega)]
theorem trc_c {n : Nat} {F T : Nat → Nat} {a0 : An} {m : Nat} {st : Nat → An} {cn : Nat → Nat} (h : trc n F T a0 m st cn) : ∀ j, j ≤ m → cn j ≤ j
  | 0, _ => by rw [h.2.1]; exact Nat.le_refl 0
  | j + 1, hj => by
    have := trc_c h j (by omega)
    rcases h.2.2.2 j (by omega) with ⟨-, -, e⟩ | ⟨-, -, -, -, e⟩ <;> omega
/-- how it ends -/
def rgs (a : An) (x y : Nat) : Prop := a.2.1 x y = false ∧ Rch a.2.1 y x
def fll (a : An) (x y : Nat) : Prop := a.2.1 x y = false ∧ ¬ Rch a.2.1 y x ∧ cntE a.2.1 60 = 400
theorem sp_bringBundle {n nb : Nat} {F T : Nat → Nat} {a : An} {tasks ties bsz : Int32} {weight bf bt : Nat → Int32} {after before : Nat → Int64} {placeOf taskAt : Nat → Int32} (hn : n ≤ 60) (ok : rl_ok n a) (h : rl_net n a tasks ties weight after before placeOf taskAt) (hnb : nb ≤ 100) (eb : bsz = nI nb) (hF : ∀ i, i < nb → bf i = nI (F i) ∧ bt i = nI (T i) ∧ F i < n ∧ T i < n) {ml rl : Int32} {mr rr ra : Nat → Int32} {post : Int32 → Int32 → (Nat → Int64) → (Nat → Int64) → (Nat → Int32) → (Nat → Int32) → Int32 → (Nat → Int32) → Int32 → (Nat → Int32) → (Nat → Int32) → Prop}
    (h0 : ∀ st cn, trc n F T a nb st cn → ∀ ti af be po ta l r w, rl_net n (st nb) tasks ti weight af be po ta → post (nI (cn nb)) ti af be po ta l r rl rr w)
    (h2 : ∀ m st cn, m < nb → trc n F T a m st cn → rgs (st m) (F m) (T m) → ∀ ti af be po ta l r rw1 w, (∀ i, i ≤ dst (st m).2.1 (F m) (T m) → rw1 i = nI (wk n (st m).2.1 (F m) (T m) i)) → post (-2) ti af be po ta l r (nI (dst (st m).2.1 (F m) (T m) + 1)) rw1 w)
    (h3 : ∀ m st cn, m < nb → trc n F T a m st cn → fll (st m) (F m) (T m) → ∀ ti af be po ta l r w, post (-1) ti af be po ta l r rl rr w) : wp_X7_bringBundle tasks ties after before placeOf taskAt ml mr bsz bf bt rl rr ra post := by
  subst eb
  unfold wp_X7_bringBundle
  refine pk_loop (σ := Int32 × (Nat → Int64) × (Nat → Int64) × (Nat → Int32) × (Nat → Int32) × Int32 × (Nat → Int32) × (Nat → Int32) × Int32) (fun k i s => lp_X7_bringBundle_4 tasks (nI nb) bf bt post k s.1 s.2.1 s.2.2.1 s.2.2.2.1 s.2.2.2.2.1 s.2.2.2.2.2.1 s.2.2.2.2.2.2.1 rl rr s.2.2.2.2.2.2.2.1 s.2.2.2.2.2.2.2.2 (nI i) (fun ti af be po ta l r rl2 rr2 w x1 => post x1 ti af be po ta l r rl2 rr2 w)) (fun i s => ∃ st cn, trc n F T a i st cn ∧ rl_net n (st i) tasks s.1 weight s.2.1 s.2.2.1 s.2.2.2.1 s.2.2.2.2.1 ∧ s.2.2.2.2.2.2.2.2 = nI (cn i)) nb 0 (ties, after, before, placeOf, taskAt, ml, mr, ra, 0) (Nat.zero_le nb) ⟨fun _ => a, fun _ => 0, trc_0 ok, h, rfl⟩ ?_ ?_
  · rintro k ⟨ti, af, be, po, ta, l, r, w, x1⟩ ⟨st, cn, hT, hN, e1⟩
    show lp_X7_bringBundle_4 _ _ _ _ _ (k + 1) ti af be po ta l r rl rr w x1 (nI nb) _
    have e1 : x1 = nI (cn nb) := e1
    rw [lp_X7_bringBundle_4, e1]
    exact br_t (nI_le (Nat.le_refl nb) (by omega)) (h0 st cn hT ti af be po ta l r w hN)
  · rintro k i ⟨ti, af, be, po, ta, l, r, w, x1⟩ hi ⟨st, cn, hT, hN, e1⟩ ih
    show lp_X7_bringBundle_4 _ _ _ _ _ (k + 1) ti af be po ta l r rl rr w x1 (nI i) _
    have e1 : x1 = nI (cn i) := e1
    have hN : rl_net n (st i) tasks ti weight af be po ta := hN
    rw [lp_X7_bringBundle_4, e1, nI_cl (by omega), (hF i hi).1, (hF i hi).2.1]
    have hin : vp_in (nI i) 100 := vp_in_nI (by omega) (by omega)
    have oki := hT.2.2.1 i (Nat.le_refl i)
    refine br_f (nI_ge hi (by omega)) ⟨hin, hin, sp_bring hn oki hN (hF i hi).2.2.1 (hF i hi).2.2.2 (fun e => ?_) (fun e q r1 w1 hr => ?_) (fun e q c => ?_) (fun e q c pl' ti2 af2 be2 po2 ta2 l2 r2 hm hN2 => ?_)⟩
    · refine br_t (by decide) (fun z ez y ey => ?_)
      rw [ey, nI_1, ez]
      obtain ⟨st2, cn2, hT2, es, ec⟩ := trc_ext hT oki (Or.inl ⟨e, rfl, rfl⟩)
      refine ih (ti, af, be, po, ta, l, r, w, _) ⟨st2, cn2, hT2, by rw [es]; exact hN, ?_⟩
      show nI (cn i) + 0 = nI (cn2 (i + 1))
      rw [ec, show (0 : Int32) = nI 0 from rfl, nI_add]
      rfl
    · exact br_f (by decide) (h2 i st cn hi hT ⟨e, q⟩ ti af be po ta l r r1 w1 hr)
    · exact br_f (by decide) (h3 i st cn hi hT ⟨e, q, c⟩ ti af be po ta l r w)
    · refine br_t (by decide) (fun z ez y ey => ?_)
      rw [ey, nI_1, ez]
      obtain ⟨st2, cn2, hT2, es, ec⟩ := trc_ext hT (rl_ok_put hn oki (hF i hi).2.2.1 (hF i hi).2.2.2 e q c hm) (Or.inr ⟨e, q, c, ⟨pl', hm, rfl⟩, rfl⟩)
      refine ih (ti2, af2, be2, po2, ta2, l2, r2, w, _) ⟨st2, cn2, hT2, by rw [es]; exact hN2, ?_⟩
      show nI (cn i) + 1 = nI (cn2 (i + 1))
      rw [ec, nI_1]
/-- what the reference holds at a state of the row -/
def cmI (n : Nat) (b : An) (early tails : Nat → Int32) (total known rk0 : Int32) (all : Nat → Int32) (r : Nat → Int64) : Prop := rl_blk n b all ∧ rl_cache n b rk0 r known early tails total
theorem cm_step {n nb i k : Nat} {F T : Nat → Nat} {a b : An} {c d : Nat} {size bsz : Int32} {bf bt : Nat → Int32} {early tails : Nat → Int32} {total known rk0 : Int32} {all was kinds : Nat → Int32} {r : Nat → Int64} {ws : Int32} {wit far : Nat → Int32} {kx : Int32 → Int32 → Int32 → (Nat → Int32) → (Nat → Int32) → (Nat → Int32) → (Nat → Int64) → (Nat → Int32) → (Nat → Int32) → Int32 → Int32 → Prop} (hn : n ≤ 60) (ok : rl_ok n a) (hs : size = nI n) (hnb : nb ≤ 100) (eb : bsz = nI nb) (hF : ∀ i, i < nb → bf i = nI (F i) ∧ bt i = nI (T i) ∧ F i < n ∧ T i < n) (hi : i < nb) (hI : cmI n a early tails total known rk0 all r) (hst : stp n a (F i) (T i) b c d) (ih : ∀ known rk0 all r was kinds, cmI n b early tails total known rk0 all r → lp_X8_commit_16 size bsz bf bt k ws known rk0 all wit far r was kinds (nI d) 0 (nI (i + 1)) kx) : lp_X8_commit_16 size bsz bf bt (k + 1) ws known rk0 all wit far r was kinds (nI c) 0 (nI i) kx := by
  subst eb
  rw [lp_X8_commit_16]
  have hin : vp_in (nI i) 100 := vp_in_nI (by omega) (by omega)
  have hx := (hF i hi).2.2.1
  have hy := (hF i hi).2.2.2
  refine br_f (nI_ge hi (by omega)) (br_t rfl ⟨hin, fun x4 e4 => ⟨hin, fun x5 e5 => ?_⟩⟩)
  rw [nI_cl (by omega), (hF i hi).1] at e4
  rw [nI_cl (by omega), (hF i hi).2.1] at e5
  subst e4 e5
  refine sp_tied8 hI.1 (by omega) (by omega) (fun e => br_f (by decide) (fun z ez => ?_)) (fun e => br_t rfl (sp_doesReach8 hn ok hs hI.1 hI.2.1 hy hx (fun q r2 hr2 => br_f (by decide) ?_) (fun q r2 hr2 => br_t rfl (sp_ties8 hI.1 ?_))))
  · rcases hst with ⟨-, e2, e3⟩ | ⟨e2, -⟩
    · rw [ez, nI_1, ← e3]
      rw [e2] at ih
      exact ih _ _ _ _ _ _ hI
    · rw [e] at e2; cases e2
  · rcases hst with ⟨e2, -⟩ | ⟨-, e2, -⟩
    · rw [e] at e2; cases e2
    · exact absurd q e2
  · rcases hst with ⟨e2, -⟩ | ⟨-, -, hc, ⟨pl', hm, e2⟩, e3⟩
    · rw [e] at e2; cases e2
    · refine br_f ?_ (sp_come8 hn ok hs hI.1 (Or.inr ⟨rfl, hr2⟩) hx hy q hm (fun al r3 w3 k3 hb2 z1 ez1 z ez => ?_))
      · rw [show (400 : Int32) = nI 400 from rfl]
        intro g
        have := nI_inj (by omega) (by omega) g
        omega
      · rw [ez, nI_1, ez1, nI_1, ← e3]
        rw [e2] at ih
        exact ih _ _ _ _ _ _ ⟨hb2, Or.inl rfl, Or.inl rfl⟩
theorem cm_done {n nb : Nat} {F T : Nat → Nat} {a : An} {st : Nat → An} {cn : Nat → Nat} {size bsz : Int32} {bf bt : Nat → Int32} {early tails : Nat → Int32} {total known rk0 : Int32} {all was kinds : Nat → Int32} {r : Nat → Int64} {ws : Int32} {wit far : Nat → Int32} {kx : Int32 → Int32 → Int32 → (Nat → Int32) → (Nat → Int32) → (Nat → Int32) → (Nat → Int64) → (Nat → Int32) → (Nat → Int32) → Int32 → Int32 → Prop} (hn : n ≤ 60) (hs : size = nI n) (hnb : nb ≤ 100) (eb : bsz = nI nb) (hF : ∀ i, i < nb → bf i = nI (F i) ∧ bt i = nI (T i) ∧ F i < n ∧ T i < n) (hT : trc n F T a nb st cn) (hI : cmI n a early tails total known rk0 all r) (hk : ∀ known rk0 all r was kinds, cmI n (st nb) early tails total known rk0 all r → kx ws known rk0 all wit far r was kinds (nI (cn nb)) 0) : ∃ k, lp_X8_commit_16 size bsz bf bt k ws known rk0 all wit far r was kinds 0 0 0 kx := by
  have h0 : ∃ k, lp_X8_commit_16 size bsz bf bt k ws known rk0 all wit far r was kinds (nI (cn 0)) 0 (nI 0) kx := by
    refine pk_loop (σ := Int32 × Int32 × (Nat → Int32) × (Nat → Int64) × (Nat → Int32) × (Nat → Int32)) (fun k i s => lp_X8_commit_16 size bsz bf bt k ws s.1 s.2.1 s.2.2.1 wit far s.2.2.2.1 s.2.2.2.2.1 s.2.2.2.2.2 (nI (cn i)) 0 (nI i) kx) (fun i s => cmI n (st i) early tails total s.1 s.2.1 s.2.2.1 s.2.2.2.1) nb 0 (known, rk0, all, r, was, kinds) (Nat.zero_le nb) (by rw [hT.1]; exact hI) ?_ ?_
    · rintro k ⟨kn, rk1, al, r1, w1, k1⟩ hI
      show lp_X8_commit_16 _ _ _ _ (k + 1) _ kn rk1 al _ _ r1 w1 k1 _ _ (nI nb) _
      rw [lp_X8_commit_16, eb]
      exact br_t (nI_le (Nat.le_refl nb) (by omega)) (hk _ _ _ _ _ _ hI)
    · rintro k i ⟨kn, rk1, al, r1, w1, k1⟩ hi hI ih
      show lp_X8_commit_16 _ _ _ _ (k + 1) _ kn rk1 al _ _ r1 w1 k1 _ _ (nI i) _
      exact cm_step hn (hT.2.2.1 i (by omega)) hs hnb eb hF hi hI (hT.2.2.2 i hi) (fun kn2 rk2 al2 r2 w2 k2 hI2 => ih (kn2, rk2, al2, r2, w2, k2) hI2)
  rw [hT.2.1] at h0
  exact h0
theorem cm_stop {n nb m : Nat} {F T : Nat → Nat} {a : An} {st : Nat → An} {cn : Nat → Nat} {size bsz : Int32} {bf bt : Nat → Int32} {early tails : Nat → Int32} {total known rk0 : Int32} {all was kinds : Nat → Int32} {r : Nat → Int64} {ws : Int32} {wit far : Nat → Int32} {kx : Int32 → Int32 → Int32 → (Nat → Int32) → (Nat → Int32) → (Nat → Int32) → (Nat → Int64) → (Nat → Int32) → (Nat → Int32) → Int32 → Int32 → Prop} (hn : n ≤ 60) (hs : size = nI n) (hnb : nb ≤ 100) (eb : bsz = nI nb) (hF : ∀ i, i < nb → bf i = nI (F i) ∧ bt i = nI (T i) ∧ F i < n ∧ T i < n) (hm : m < nb) (hT : trc n F T a m st cn) (hI : cmI n a early tails total known rk0 all r) (hO : rgs (st m) (F m) (T m) ∨ fll (st m) (F m) (T m))
    (hk2 : rgs (st m) (F m) (T m) → ∀ known rk0 all wit far r was kinds, (∀ i, i ≤ dst (st m).2.1 (F m) (T m) → wit i = nI (wk n (st m).2.1 (F m) (T m) i)) → kx (nI (dst (st m).2.1 (F m) (T m) + 1)) known rk0 all wit far r was kinds (nI (cn m)) (-2))
    (hk1 : fll (st m) (F m) (T m) → ∀ known rk0 all r was kinds, kx ws known rk0 all wit far r was kinds (nI (cn m)) (-1)) : ∃ k, lp_X8_commit_16 size bsz bf bt k ws known rk0 all wit far r was kinds 0 0 0 kx := by
  have h0 : ∃ k, lp_X8_commit_16 size bsz bf bt k ws known rk0 all wit far r was kinds (nI (cn 0)) 0 (nI 0) kx := by
    refine pk_loop (σ := (Int32 × Int32 × (Nat → Int32) × (Nat → Int64) × (Nat → Int32) × (Nat → Int32)) × Int32 × (Nat → Int32) × (Nat → Int32) × Int32 × Int32) (fun k i s => lp_X8_commit_16 size bsz bf bt k s.2.1 s.1.1 s.1.2.1 s.1.2.2.1 s.2.2.1 s.2.2.2.1 s.1.2.2.2.1 s.1.2.2.2.2.1 s.1.2.2.2.2.2 s.2.2.2.2.1 s.2.2.2.2.2 (nI i) kx) (fun i s => (i ≤ m ∧ cmI n (st i) early tails total s.1.1 s.1.2.1 s.1.2.2.1 s.1.2.2.2.1 ∧ s.2.1 = ws ∧ s.2.2.1 = wit ∧ s.2.2.2.1 = far ∧ s.2.2.2.2.1 = nI (cn i) ∧ s.2.2.2.2.2 = 0) ∨ (i = m + 1 ∧ s.2.2.2.2.2 ≠ 0 ∧ kx s.2.1 s.1.1 s.1.2.1 s.1.2.2.1 s.2.2.1 s.2.2.2.1 s.1.2.2.2.1 s.1.2.2.2.2.1 s.1.2.2.2.2.2 s.2.2.2.2.1 s.2.2.2.2.2)) (m + 1) 0 ((known, rk0, all, r, was, kinds), ws, wit, far, nI (cn 0), 0) (by omega) (Or.inl ⟨Nat.zero_le m, by rw [hT.1]; exact hI, rfl, rfl, rfl, rfl, rfl⟩) ?_ ?_
    · rintro k ⟨⟨kn, rk1, al, r1, w1, k1⟩, ws1, wit1, far1, c1, x2⟩ (hI | hI)
      · exact absurd hI.1 (by omega)
      · show lp_X8_commit_16 _ _ _ _ (k + 1) ws1 kn rk1 al wit1 far1 r1 w1 k1 c1 x2 (nI (m + 1)) _
        rw [lp_X8_commit_16]
        exact br_c (fun _ => hI.2.2) (fun _ => br_f hI.2.1 hI.2.2)
    · rintro k i ⟨⟨kn, rk1, al, r1, w1, k1⟩, ws1, wit1, far1, c1, x2⟩ hi (hI | hI) ih
      · obtain ⟨him, hC, e1, e2, e3, e4, e5⟩ := hI
        have e1 : ws1 = ws := e1
        have e2 : wit1 = wit := e2
        have e3 : far1 = far := e3
        have e4 : c1 = nI (cn i) := e4
        have e5 : x2 = 0 := e5
        subst e1 e2 e3 e4 e5
        show lp_X8_commit_16 _ _ _ _ (k + 1) ws1 kn rk1 al wit1 far1 r1 w1 k1 (nI (cn i)) 0 (nI i) _
        by_cases q : i < m
        · exact cm_step hn (hT.2.2.1 i (by omega)) hs hnb eb hF (by omega) hC (hT.2.2.2 i q) (fun kn2 rk2 al2 r2 w2 k2 hI2 => ih ((kn2, rk2, al2, r2, w2, k2), ws1, wit1, far1, nI (cn (i + 1)), 0) (Or.inl ⟨by omega, hI2, rfl, rfl, rfl, rfl, rfl⟩))
        · have eim : i = m := by omega
          subst eim
          have oki := hT.2.2.1 i (Nat.le_refl i)
          rw [lp_X8_commit_16]
          have hin : vp_in (nI i) 100 := vp_in_nI (by omega) (by omega)
          have hx := (hF i hm).2.2.1
          have hy := (hF i hm).2.2.2
          refine br_f (by rw [eb]; exact nI_ge hm (by omega)) (br_t rfl ⟨hin, fun x4 e4 => ⟨hin, fun x5 e5 => ?_⟩⟩)
          rw [nI_cl (by omega), (hF i hm).1] at e4
          rw [nI_cl (by omega), (hF i hm).2.1] at e5
          subst e4 e5
          have hE : (st i).2.1 (F i) (T i) = false := hO.elim (fun g => g.1) (fun g => g.1)
          refine sp_tied8 hC.1 (by omega) (by omega) (fun e => by rw [hE] at e; cases e) (fun e => br_t rfl (sp_doesReach8 hn oki hs hC.1 hC.2.1 hy hx (fun q r2 hr2 => br_f (by decide) (sp_findWitness8 hn oki hs hC.1 hx hy q (fun w2 f2 hw2 z ez => ?_))) (fun q r2 hr2 => br_t rfl (sp_ties8 hC.1 (br_t ?_ (fun z ez => ?_))))))
          · rw [ez, nI_1]
            exact ih ((kn, 1, al, r2, w1, k1), nI (dst (st i).2.1 (F i) (T i) + 1), w2, f2, nI (cn i), -2) (Or.inr ⟨rfl, (by decide : (-2 : Int32) ≠ 0), hk2 ⟨hE, q⟩ _ _ _ _ _ _ _ _ hw2⟩)
          · rcases hO with g | g
            · exact absurd g.2 q
            · rw [g.2.2]; rfl
          · rw [ez, nI_1]
            refine ih ((kn, 1, al, r2, w1, k1), ws1, wit1, far1, nI (cn i), -1) (Or.inr ⟨rfl, (by decide : (-1 : Int32) ≠ 0), hk1 ?_ _ _ _ _ _ _⟩)
            rcases hO with g | g
            · exact absurd g.2 q
            · exact g
      · exact absurd hI.1 (by omega)
  rw [hT.2.1] at h0
  exact h0
theorem sw_0 {all whole : Nat → Int32} {post : (Nat → Int32) → (Nat → Int32) → Prop} (h : ∀ w, (∀ k, k < 3720 → w k = all k) → post all w) : wp_X8_swapWhole all whole 0 post := by
  unfold wp_X8_swapWhole
  refine pk_loop (σ := Nat → Int32) (fun k i s => lp_X8_swapWhole_2 0 k all s (nI i) (fun x y => post x y)) (fun i s => ∀ k, k < i → s k = all k) 3720 0 whole (by omega) (fun k hk => absurd hk (by omega)) ?_ ?_
  · intro k s hI
    show lp_X8_swapWhole_2 _ (k + 1) all s (nI 3720) _
    rw [lp_X8_swapWhole_2]
    exact br_t (by decide) (h s hI)
  · intro k i s hi hI ih
    show lp_X8_swapWhole_2 _ (k + 1) all s (nI i) _
    rw [lp_X8_swapWhole_2, nI_cl (by omega)]
    have hin : vp_in (nI i) 3720 := vp_in_nI (by omega) (by omega)
    refine br_f (by rw [show (3720 : Int32) = nI 3720 from rfl]; exact nI_ge hi (by omega)) (br_t rfl ⟨hin, hin, fun w ew z ez => ?_⟩)
    rw [ez, nI_1]
    refine ih w (fun j hj => ?_)
    rw [ew]
    by_cases q : j = i
    · rw [q, pk_us]
    · rw [pk_un q]; exact hI j (by omega)
theorem sw_1 {all whole : Nat → Int32} {post : (Nat → Int32) → (Nat → Int32) → Prop} (h : ∀ w, (∀ k, k < 3720 → w k = whole k) → post w whole) : wp_X8_swapWhole all whole 1 post := by
  unfold wp_X8_swapWhole
  refine pk_loop (σ := Nat → Int32) (fun k i s => lp_X8_swapWhole_2 1 k s whole (nI i) (fun x y => post x y)) (fun i s => ∀ k, k < i → s k = whole k) 3720 0 all (by omega) (fun k hk => absurd hk (by omega)) ?_ ?_
  · intro k s hI
    show lp_X8_swapWhole_2 _ (k + 1) s whole (nI 3720) _
    rw [lp_X8_swapWhole_2]
    exact br_t (by decide) (h s hI)
  · intro k i s hi hI ih
    show lp_X8_swapWhole_2 _ (k + 1) s whole (nI i) _
    rw [lp_X8_swapWhole_2, nI_cl (by omega)]
    have hin : vp_in (nI i) 3720 := vp_in_nI (by omega) (by omega)
    refine br_f (by rw [show (3720 : Int32) = nI 3720 from rfl]; exact nI_ge hi (by omega)) (br_f (by decide) ⟨hin, hin, fun w ew z ez => ?_⟩)
    rw [ez, nI_1]
    refine ih w (fun j hj => ?_)
    rw [ew]
    by_cases q : j = i
    · rw [q, pk_us]
    · rw [pk_un q]; exact hI j (by omega)
theorem cm_157 {n : Nat} {a b : An} {size x1 : Int32} {all whole : Nat → Int32} (hn : n ≤ 60) (oka : rl_ok n a) (okb : rl_ok n b) (hs : size = nI n) (hb : rl_blk n b all) (hw : rl_blk n a whole) {kx : Int32 → Prop} (h : kx (nI (mvd b.2.2 a.2.2 n))) : ∃ k, lp_X8_commit_157 size all whole x1 k 0 0 kx := by
  subst hs
  refine pk_loop (σ := Unit) (fun k i _ => lp_X8_commit_157 (nI n) all whole x1 k (nI (mvd b.2.2 a.2.2 i)) (nI i) kx) (fun _ _ => True) n 0 () (Nat.zero_le n) trivial ?_ ?_
  · intro k _ _
    show lp_X8_commit_157 _ _ _ _ (k + 1) (nI (mvd b.2.2 a.2.2 n)) (nI n) _
    rw [lp_X8_commit_157]
    exact br_t (nI_le (Nat.le_refl n) (by omega)) h
  · intro k i _ hi _ ih
    show lp_X8_commit_157 _ _ _ _ (k + 1) (nI (mvd b.2.2 a.2.2 i)) (nI i) _
    rw [lp_X8_commit_157, nI_3660, nI_cl (by omega), hw.2.2 i hi]
    have b1 := oka.2.2.1 i hi
    have b2 := okb.2.2.1 i hi
    refine br_f (nI_ge hi (by omega)) ⟨vp_in_nI (by omega) (by omega), sp_place8 hb hn hi (br_c (fun c z ez => ?_) (fun c u eu z ez => ?_))⟩
    · have e : a.2.2 i = b.2.2 i := nI_inj (by omega) (by omega) c
      have := ih () trivial
      rw [ez, nI_1]
      rw [show mvd b.2.2 a.2.2 (i + 1) = mvd b.2.2 a.2.2 i from cntR_f (by exact decide_eq_false (fun g => g e.symm))] at this
      exact this
    · have := ih () trivial
      rw [ez, nI_1, eu, nI_1]
      rw [show mvd b.2.2 a.2.2 (i + 1) = mvd b.2.2 a.2.2 i + 1 from cntR_t (by exact decide_eq_true (fun g => c (by rw [g])))] at this
      exact this
theorem cm_236 {whole copies : Nat → Int32} {b : Nat} {x1 : Int32} (hb : b < 64) {kx : (Nat → Int32) → Prop} (h : ∀ c, (∀ k, k < 3720 → c (3720 * b + k) = whole k) → (∀ j, j < 3720 * b ∨ 3720 * b + 3720 ≤ j → c j = copies j) → kx c) : ∃ k, lp_X8_commit_236 whole x1 (nI (3720 * b)) k copies 0 kx := by
  refine pk_loop (σ := Nat → Int32) (fun k i s => lp_X8_commit_236 whole x1 (nI (3720 * b)) k s (nI i) kx) (fun i s => (∀ k, k < i → s (3720 * b + k) = whole k) ∧ ∀ j, j < 3720 * b ∨ 3720 * b + 3720 ≤ j → s j = copies j) 3720 0 copies (by omega) ⟨fun k hk => absurd hk (by omega), fun _ _ => rfl⟩ ?_ ?_
  · intro k s hI
    show lp_X8_commit_236 _ _ _ (k + 1) s (nI 3720) _
    rw [lp_X8_commit_236]
    exact br_t (by decide) (h s hI.1 hI.2)
  · intro k i s hi hI ih
    show lp_X8_commit_236 _ _ _ (k + 1) s (nI i) _
    rw [lp_X8_commit_236, nI_add, nI_cl (by omega), nI_cl (by omega)]
    refine br_f (by rw [show (3720 : Int32) = nI 3720 from rfl]; exact nI_ge hi (by omega)) ⟨vp_in_nI (by omega) (by omega), vp_in_nI (by omega) (by omega), fun w ew z ez => ?_⟩
    rw [ez, nI_1]
    refine ih w ⟨fun j hj => ?_, fun j hj => ?_⟩
    · rw [ew]
      by_cases q : j = i
      · rw [q, pk_us]
      · rw [pk_un (by omega)]; exact hI.1 j (by omega)
    · rw [ew, pk_un (by omega)]; exact hI.2 j hj
/-- the copy that keep() laid is laid anew -/
theorem rl_copies_over {n f l : Nat} {a b : An} {hist : List An} {fc cc : Int32} {c c2 whole : Nat → Int32} (hn : n ≤ 60) (hlen : hist.length ≤ 64) (hf : f < 64) (hl : l ≤ 64) (hl0 : 0 < l) (e1 : fc = nI f) (e2 : cc = nI l) (hp : rl_copies n ((b :: hist).take 64) fc cc c) (hw : rl_blk n a whole) (h1 : ∀ k, k < 3720 → c2 (3720 * ((f + l - 1) % 64) + k) = whole k) (h2 : ∀ j, j < 3720 * ((f + l - 1) % 64) ∨ 3720 * ((f + l - 1) % 64) + 3720 ≤ j → c2 j = c j) : rl_copies n ((a :: hist).take 64) fc cc c2 := by
  obtain ⟨g1, f2, hf2, g2, g3⟩ := hp
  have tl : ((a :: hist).take 64).length = ((b :: hist).take 64).length := by rw [take_len hlen, take_len hlen]
  have ell : ((b :: hist).take 64).length = l := by
    have hb : ((b :: hist).take 64).length ≤ 64 := by rw [List.length_take]; omega
    exact nI_inj (by omega) (by omega) (g1.symm.trans e2)
  have eff : f2 = f := nI_inj (by omega) (by omega) (g2.symm.trans e1)
  rw [eff, ell] at g3
  refine ⟨by rw [tl]; exact g1, f, hf, e1, fun i h q => ?_⟩
  rw [tl, ell]
  obtain ⟨hi, q2⟩ := take_get q
  have hil : i < l := by
    have := (List.getElem?_eq_some_iff.mp q).1
    rw [tl, ell] at this
    exact this
  rcases q2 with ⟨rfl, rfl⟩ | ⟨j, rfl, q3⟩
  · exact rl_blk_eq hn hw (fun k hk => h1 k hk)
  · have q4 : ((b :: hist).take 64)[j + 1]? = some h := by
      rw [List.getElem?_take_of_lt hi]
      exact q3
    refine rl_blk_eq hn (g3 (j + 1) h q4) (fun k hk => ?_)
    have hne : (f + l - 1 - (j + 1)) % 64 ≠ (f + l - 1) % 64 := by omega
    exact h2 _ (by omega)
