def spareP (E : Nat → Nat → Bool) (x y : Nat) : Prop := ∃ w, w ≠ y ∧ E x w = true ∧ Rch E w y
theorem sp_needless8 {n x y : Nat} {a : An} {size rk0 : Int32} {all : Nat → Int32} {r0 : Nat → Int64} (hn : n ≤ 60) (ok : rl_ok n a) (hs : size = nI n) (hb : rl_blk n a all) (hc : rc_st n a.2.1 rk0 r0) (hx : x < n) (hy : y < n) {post : Int32 → Int32 → (Nat → Int64) → Prop} (h1 : spareP a.2.1 x y → ∀ k r, rc_st n a.2.1 k r → post 1 k r) (h0 : ¬ spareP a.2.1 x y → ∀ k r, rc_st n a.2.1 k r → post 0 k r) : wp_X8_isNeedless size rk0 all r0 (nI x) (nI y) post := by
  subst hs
  unfold wp_X8_isNeedless
  refine pk_loop (σ := Int32 × (Nat → Int64) × Int32) (fun k i s => lp_X8_isNeedless_5 (nI n) all (nI x) (nI y) k s.1 s.2.1 s.2.2 (nI i) (fun k2 r2 f => (f = 0 ∨ f = 1) ∧ post f k2 r2)) (fun i s => rc_st n a.2.1 s.1 s.2.1 ∧ ((s.2.2 = 0 ∧ ∀ w, w < i → ¬ (w ≠ y ∧ a.2.1 x w = true ∧ Rch a.2.1 w y)) ∨ (s.2.2 = 1 ∧ spareP a.2.1 x y))) n 0 (rk0, r0, 0) (Nat.zero_le n) ⟨hc, Or.inl ⟨rfl, fun w hw => absurd hw (by omega)⟩⟩ ?_ ?_
  · rintro k ⟨k1, r1, f⟩ hI
    replace hI : rc_st n a.2.1 k1 r1 ∧ ((f = 0 ∧ ∀ w, w < n → ¬ (w ≠ y ∧ a.2.1 x w = true ∧ Rch a.2.1 w y)) ∨ (f = 1 ∧ spareP a.2.1 x y)) := hI
    show lp_X8_isNeedless_5 _ _ _ _ (k + 1) k1 r1 f (nI n) _
    rw [lp_X8_isNeedless_5]
    refine br_t (nI_le (Nat.le_refl n) (by omega)) ?_
    rcases hI with ⟨hc1, ⟨rfl, h2⟩ | ⟨rfl, h2⟩⟩
    · exact ⟨Or.inl rfl, h0 (fun ⟨w, q⟩ => h2 w (ok.2.1 x w q.2.1).2.1 q) k1 r1 hc1⟩
    · exact ⟨Or.inr rfl, h1 h2 k1 r1 hc1⟩
  · rintro k i ⟨k1, r1, f⟩ hi hI ih
    replace hI : rc_st n a.2.1 k1 r1 ∧ ((f = 0 ∧ ∀ w, w < i → ¬ (w ≠ y ∧ a.2.1 x w = true ∧ Rch a.2.1 w y)) ∨ (f = 1 ∧ spareP a.2.1 x y)) := hI
    show lp_X8_isNeedless_5 _ _ _ _ (k + 1) k1 r1 f (nI i) _
    rw [lp_X8_isNeedless_5]
    refine br_f (nI_ge hi (by omega)) ?_
    rcases hI with ⟨hc1, ⟨rfl, h2⟩ | ⟨rfl, h2⟩⟩
    · have step : (¬ (i ≠ y ∧ a.2.1 x i = true ∧ Rch a.2.1 i y)) → ∀ w, w < i + 1 → ¬ (w ≠ y ∧ a.2.1 x w = true ∧ Rch a.2.1 w y) := by
        intro q w hw
        by_cases e : w = i
        · subst e; exact q
        · exact h2 w (by omega)
      refine br_t rfl (br_c (fun c => ?_) (fun c => ?_))
      · intro z ez
        rw [ez, nI_1]
        have c2 : i = y := nI_inj (by omega) (by omega) c
        exact ih (k1, r1, 0) ⟨hc1, Or.inl ⟨rfl, step (fun q => q.1 c2)⟩⟩
      · have c2 : i ≠ y := fun q => c (by rw [q])
        refine sp_tied8 hb (by omega) (by omega) (fun e => br_f (by decide) ?_) (fun e => br_t rfl ?_)
        · refine sp_doesReach8 hn ok rfl hb hc1 hi hy (fun q r hr => br_f (by decide) ?_) (fun q r hr => br_t rfl ?_)
          · intro z ez
            rw [ez, nI_1]
            exact ih (1, r, 1) ⟨Or.inr ⟨rfl, hr⟩, Or.inr ⟨rfl, i, c2, e, q⟩⟩
          · intro z ez
            rw [ez, nI_1]
            exact ih (1, r, 0) ⟨Or.inr ⟨rfl, hr⟩, Or.inl ⟨rfl, step (fun q2 => q q2.2.2)⟩⟩
        · intro z ez
          rw [ez, nI_1]
          exact ih (k1, r1, 0) ⟨hc1, Or.inl ⟨rfl, step (fun q => by rw [e] at q; exact absurd q.2.1 (by decide))⟩⟩
    · exact br_f (by decide) ⟨Or.inr rfl, h1 h2 k1 r1 hc1⟩
theorem sim_tied_ok : sim_tied Rel := by
  intro cs ms hR a1 a2
  have hR0 := hR
  obtain ⟨n, a, hist, hn, ok, okh, hnet, ⟨hsz, hblk⟩, hpast, hcop, hbun, hwit, hplan, hcache, hmv⟩ := hR
  unfold wp_X7_tied
  refine sp_areTasks hn hnet.1 (fun h => br_t rfl ?_) (fun x y hx hy ex ey => br_f (by decide) ?_)
  · unfold wp_X8_tied
    exact sp_has8 hn hsz (fun _ => br_t rfl ⟨rfl, hR0⟩) (fun x hx ex => br_f (by decide) (sp_has8 hn hsz (fun _ => br_t rfl ⟨rfl, hR0⟩) (fun y hy ey => absurd ⟨x, y, hx, hy, ex, ey⟩ h)))
  · subst ex ey
    refine sp_hasTie hnet (by omega) (by omega) (fun e => br_f (by decide) ?_) (fun e => br_t rfl ?_)
    · refine sp_spare hn ok hnet hx hy (fun q => br_f (by decide) ?_) (fun q => br_t rfl ?_)
      · unfold wp_X8_tied
        refine sp_has8 hn hsz (fun h => absurd ⟨x, hx, rfl⟩ h) (fun _ _ _ => br_f (by decide) (sp_has8 hn hsz (fun h => absurd ⟨y, hy, rfl⟩ h) (fun _ _ _ => br_f (by decide) (sp_tied8 hblk (by omega) (by omega) (fun _ => br_f (by decide) (sp_needless8 hn ok hsz hblk hcache.1 hx hy (fun _ k r hr => br_f (by decide) ⟨rfl, ?_⟩) (fun q2 => absurd q q2))) (fun e2 => absurd (e2.symm.trans e) (by decide))))))
        exact ⟨n, a, hist, hn, ok, okh, hnet, ⟨hsz, hblk⟩, hpast, hcop, hbun, hwit, hplan, ⟨hr, hcache.2⟩, hmv⟩
      · unfold wp_X8_tied
        refine sp_has8 hn hsz (fun h => absurd ⟨x, hx, rfl⟩ h) (fun _ _ _ => br_f (by decide) (sp_has8 hn hsz (fun h => absurd ⟨y, hy, rfl⟩ h) (fun _ _ _ => br_f (by decide) (sp_tied8 hblk (by omega) (by omega) (fun _ => br_f (by decide) (sp_needless8 hn ok hsz hblk hcache.1 hx hy (fun q2 => absurd q2 q) (fun _ k r hr => br_t rfl ⟨rfl, ?_⟩))) (fun e2 => absurd (e2.symm.trans e) (by decide))))))
        exact ⟨n, a, hist, hn, ok, okh, hnet, ⟨hsz, hblk⟩, hpast, hcop, hbun, hwit, hplan, ⟨hr, hcache.2⟩, hmv⟩
    · unfold wp_X8_tied
      exact sp_has8 hn hsz (fun h => absurd ⟨x, hx, rfl⟩ h) (fun _ _ _ => br_f (by decide) (sp_has8 hn hsz (fun h => absurd ⟨y, hy, rfl⟩ h) (fun _ _ _ => br_f (by decide) (sp_tied8 hblk (by omega) (by omega) (fun e2 => absurd (e2.symm.trans e) (by decide)) (fun _ => br_t rfl ⟨rfl, hR0⟩)))))
/-- how many ties are not needed -/
noncomputable def spB (E : Nat → Nat → Bool) (x y : Nat) : Bool := E x y && @decide (spareP E x y) (Classical.propDecidable _)
def cntN (f : Nat → Nat → Bool) (m : Nat) : Nat → Nat
  | 0 => 0
  | k + 1 => cntN f m k + cntR (f k) m
theorem spB_t {E : Nat → Nat → Bool} {x y : Nat} (h : E x y = true) (q : spareP E x y) : spB E x y = true := by unfold spB; rw [h, @decide_eq_true _ (Classical.propDecidable _) q]; rfl
theorem spB_f1 {E : Nat → Nat → Bool} {x y : Nat} (h : E x y = false) : spB E x y = false := by unfold spB; rw [h]; rfl
theorem spB_f2 {E : Nat → Nat → Bool} {x y : Nat} (q : ¬ spareP E x y) : spB E x y = false := by unfold spB; rw [@decide_eq_false _ (Classical.propDecidable _) q, Bool.and_false]
theorem cntR_t {f : Nat → Bool} {k : Nat} (h : f k = true) : cntR f (k + 1) = cntR f k + 1 := by show cntR f k + _ = _; rw [if_pos h]
theorem cntR_f {f : Nat → Bool} {k : Nat} (h : f k = false) : cntR f (k + 1) = cntR f k := by show cntR f k + _ = _; rw [if_neg (by rw [h]; decide)]; rfl
theorem sp_countSpare {n : Nat} {a : An} {tasks ties : Int32} {weight : Nat → Int32} {after before : Nat → Int64} {placeOf taskAt : Nat → Int32} (hn : n ≤ 60) (ok : rl_ok n a) (h : rl_net n a tasks ties weight after before placeOf taskAt) {post : Int32 → Prop} (hp : post (nI (cntN (spB a.2.1) n n))) : wp_X2_countSpareTies tasks after before placeOf taskAt post := by
  have ht := h.1
  subst ht
  unfold wp_X2_countSpareTies
  refine pk_loop (σ := Int32) (fun k i s => lp_X2_countSpareTies_4 (nI n) after before placeOf taskAt k s (nI i) (fun x => post x)) (fun i s => s = nI (cntN (spB a.2.1) n i)) n 0 0 (Nat.zero_le n) rfl ?_ ?_
  · intro k s hI
    show lp_X2_countSpareTies_4 _ _ _ _ _ (k + 1) s (nI n) _
    rw [lp_X2_countSpareTies_4]
    refine br_t (nI_le (Nat.le_refl n) (by omega)) ?_
    rw [hI]; exact hp
  · intro k x s hx hI ih
    show lp_X2_countSpareTies_4 _ _ _ _ _ (k + 1) s (nI x) _
    rw [lp_X2_countSpareTies_4]
    refine br_f (nI_ge hx (by omega)) ?_
    refine pk_loop (σ := Int32) (fun k2 y s2 => lp_X2_countSpareTies_14 (nI n) after before placeOf taskAt (nI x) k2 s2 (nI y) (fun x1_11 => ∀ x2_12 : Int32, x2_12 = nI x + 1 → lp_X2_countSpareTies_4 (nI n) after before placeOf taskAt k x1_11 x2_12 (fun x => post x))) (fun y s2 => s2 = nI (cntN (spB a.2.1) n x + cntR (spB a.2.1 x) y)) n 0 s (Nat.zero_le n) hI ?_ ?_
    · intro k2 s2 hJ
      show lp_X2_countSpareTies_14 _ _ _ _ _ _ (k2 + 1) s2 (nI n) _
      rw [lp_X2_countSpareTies_14]
      refine br_t (nI_le (Nat.le_refl n) (by omega)) (fun z ez => ?_)
      rw [ez, nI_1]
      exact ih s2 hJ
    · intro k2 y s2 hy hJ ih2
      show lp_X2_countSpareTies_14 _ _ _ _ _ _ (k2 + 1) s2 (nI y) _
      rw [lp_X2_countSpareTies_14]
      refine br_f (nI_ge hy (by omega)) (sp_hasTie h (by omega) (by omega) (fun e => br_f (by decide) (sp_spare hn ok h hx hy (fun q => br_f (by decide) (fun s3 es3 => ?_)) (fun q => br_t rfl ?_))) (fun e => br_t rfl ?_))
      · intro z ez
        rw [ez, nI_1]
        exact ih2 s3 (by rw [es3, hJ, nI_1, cntR_t (spB_t e q)]; rfl)
      · intro z ez
        rw [ez, nI_1]
        exact ih2 s2 (by rw [hJ, cntR_f (spB_f2 q)])
      · intro z ez
        rw [ez, nI_1]
        exact ih2 s2 (by rw [hJ, cntR_f (spB_f1 e)])
theorem sp_countNeedless8 {n : Nat} {a : An} {size rk0 : Int32} {all : Nat → Int32} {r0 : Nat → Int64} (hn : n ≤ 60) (ok : rl_ok n a) (hs : size = nI n) (hb : rl_blk n a all) (hc : rc_st n a.2.1 rk0 r0) {post : Int32 → Int32 → (Nat → Int64) → Prop} (hp : ∀ k r, rc_st n a.2.1 k r → post (nI (cntN (spB a.2.1) n n)) k r) : wp_X8_needless size rk0 all r0 post := by
  subst hs
  unfold wp_X8_needless
  refine pk_loop (σ := Int32 × (Nat → Int64) × Int32) (fun k i s => lp_X8_needless_4 (nI n) all k s.1 s.2.1 s.2.2 (nI i) (fun k2 r2 f => post f k2 r2)) (fun i s => rc_st n a.2.1 s.1 s.2.1 ∧ s.2.2 = nI (cntN (spB a.2.1) n i)) n 0 (rk0, r0, 0) (Nat.zero_le n) ⟨hc, rfl⟩ ?_ ?_
  · rintro k ⟨k1, r1, s⟩ hI
    replace hI : rc_st n a.2.1 k1 r1 ∧ s = nI (cntN (spB a.2.1) n n) := hI
    show lp_X8_needless_4 _ _ (k + 1) k1 r1 s (nI n) _
    rw [lp_X8_needless_4]
    refine br_t (nI_le (Nat.le_refl n) (by omega)) ?_
    rw [hI.2]; exact hp k1 r1 hI.1
  · rintro k x ⟨k1, r1, s⟩ hx hI ih
    replace hI : rc_st n a.2.1 k1 r1 ∧ s = nI (cntN (spB a.2.1) n x) := hI
    show lp_X8_needless_4 _ _ (k + 1) k1 r1 s (nI x) _
    rw [lp_X8_needless_4]
    refine br_f (nI_ge hx (by omega)) ?_
    refine pk_loop (σ := Int32 × (Nat → Int64) × Int32) (fun k2 y t => lp_X8_needless_14 (nI n) all (nI x) k2 t.1 t.2.1 t.2.2 (nI y) (fun k3 r3 f => ∀ x2_16 : Int32, x2_16 = nI x + 1 → lp_X8_needless_4 (nI n) all k k3 r3 f x2_16 (fun k2 r2 f => post f k2 r2))) (fun y t => rc_st n a.2.1 t.1 t.2.1 ∧ t.2.2 = nI (cntN (spB a.2.1) n x + cntR (spB a.2.1 x) y)) n 0 (k1, r1, s) (Nat.zero_le n) ⟨hI.1, hI.2⟩ ?_ ?_
    · rintro k2 ⟨k3, r3, s3⟩ hJ
      show lp_X8_needless_14 _ _ _ (k2 + 1) k3 r3 s3 (nI n) _
      rw [lp_X8_needless_14]
      refine br_t (nI_le (Nat.le_refl n) (by omega)) (fun z ez => ?_)
      rw [ez, nI_1]
      exact ih (k3, r3, s3) hJ
    · rintro k2 y ⟨k3, r3, s3⟩ hy hJ ih2
      replace hJ : rc_st n a.2.1 k3 r3 ∧ s3 = nI (cntN (spB a.2.1) n x + cntR (spB a.2.1 x) y) := hJ
      show lp_X8_needless_14 _ _ _ (k2 + 1) k3 r3 s3 (nI y) _
      rw [lp_X8_needless_14]
      refine br_f (nI_ge hy (by omega)) (sp_tied8 hb (by omega) (by omega) (fun e => br_f (by decide) (sp_needless8 hn ok rfl hb hJ.1 hx hy (fun q k4 r4 hr => br_f (by decide) (fun s4 es4 => ?_)) (fun q k4 r4 hr => br_t rfl ?_))) (fun e => br_t rfl ?_))
      · intro z ez
        rw [ez, nI_1]
        exact ih2 (k4, r4, s4) ⟨hr, by show s4 = _; rw [es4, hJ.2, nI_1, cntR_t (spB_t e q)]; rfl⟩
      · intro z ez
        rw [ez, nI_1]
        exact ih2 (k4, r4, s3) ⟨hr, by show s3 = _; rw [hJ.2, cntR_f (spB_f2 q)]⟩
      · intro z ez
        rw [ez, nI_1]
        exact ih2 (k3, r3, s3) ⟨hJ.1, by show s3 = _; rw [hJ.2, cntR_f (spB_f1 e)]⟩
theorem sp_ties8 {n : Nat} {a : An} {all : Nat → Int32} (hb : rl_blk n a all) {post : Int32 → Prop} (hp : post (nI (cntE a.2.1 60))) : wp_X8_ties all post := by
  unfold wp_X8_ties
  refine pk_loop (σ := Int32) (fun k i s => lp_X8_ties_4 all k s (nI i) (fun x => post x)) (fun i s => s = nI (cntE a.2.1 (i / 60) + cntR (a.2.1 (i / 60)) (i % 60))) 3600 0 0 (by omega) rfl ?_ ?_
  · intro k s hI
    show lp_X8_ties_4 _ (k + 1) s (nI 3600) _
    rw [lp_X8_ties_4]
    refine br_t (by decide) ?_
    rw [hI]
    exact hp
  · intro k i s hi hI ih
    show lp_X8_ties_4 _ (k + 1) s (nI i) _
    rw [lp_X8_ties_4]
    have h3 : ¬ ((3600 : Int32) ≤ nI i) := by rw [show (3600 : Int32) = nI 3600 from rfl]; exact nI_ge hi (by omega)
    refine br_f h3 ⟨vp_in_nI (by omega) (by omega), fun s2 es2 y ey => ?_⟩
    rw [ey, nI_1]
    refine ih s2 ?_
    rw [nI_cl (by omega)] at es2
    have ei : i = 60 * (i / 60) + i % 60 := by omega
    have hv : all i = nI (if a.2.1 (i / 60) (i % 60) = true then 1 else 0) := by
      conv => lhs; rw [ei]
      rw [hb.1 (i / 60) (i % 60) (by omega) (by omega)]
      by_cases q : a.2.1 (i / 60) (i % 60) = true
      · rw [if_pos q, if_pos q]; rfl
      · rw [if_neg q, if_neg q]; rfl
    rw [es2, hI, hv, nI_add]
    congr 1
    have hc : cntR (a.2.1 (i / 60)) (i % 60) + (if a.2.1 (i / 60) (i % 60) = true then 1 else 0) = cntR (a.2.1 (i / 60)) (i % 60 + 1) := rfl
    by_cases q : i % 60 = 59
    · have e1 : (i + 1) / 60 = i / 60 + 1 := by omega
      have e2 : (i + 1) % 60 = 0 := by omega
      rw [e1, e2]
      show _ = cntE a.2.1 (i / 60) + cntR (a.2.1 (i / 60)) 60 + 0
      rw [q] at hc ⊢
      replace hc : cntR (a.2.1 (i / 60)) 59 + (if a.2.1 (i / 60) 59 = true then 1 else 0) = cntR (a.2.1 (i / 60)) 60 := hc
      omega
    · have e1 : (i + 1) / 60 = i / 60 := by omega
      have e2 : (i + 1) % 60 = i % 60 + 1 := by omega
      rw [e1, e2]
      omega
