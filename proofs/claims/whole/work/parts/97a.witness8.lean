theorem nI_m1 {x : Nat} (hx : x < 2 ^ 31) : nI x ≠ -1 := fun h => nI_pos hx (by rw [h]; decide)
noncomputable def fv (n : Nat) (a : An) (x d t : Nat) : Int32 := if dst a.2.1 x t ≤ d then nI (dst a.2.1 x t) else -1
theorem ff_55 {n x t d : Nat} {a : An} {all s0 : Nat → Int32} (hn : n ≤ 60) (ok : rl_ok n a) (hb : rl_blk n a all) (hx : x < n) (ht : t < n) (hd : d < n) (h0 : ∀ u, u < n → (s0 u = nI d ↔ dst a.2.1 x u = d)) (hst : s0 t = fv n a x d t) {kx : (Nat → Int32) → Prop} (hk : ∀ s, (∀ u, u ≠ t → s u = s0 u) → s t = fv n a x (d + 1) t → kx s) : ∃ k, lp_X8_findFar_55 (nI n) all (nI d) (nI t) k s0 0 kx := by
  have hl := dst_lim hn ok hx (t := t)
  have hin : vp_in (nI t) 60 := vp_in_nI (by omega) (by omega)
  have ecl : (nI t).toNatClampNeg = t := nI_cl (by omega)
  unfold fv at hst hk
  by_cases q : dst a.2.1 x t ≤ d
  · refine ⟨0 + 1, ?_⟩
    rw [lp_X8_findFar_55, ecl]
    rw [if_pos q] at hst
    refine br_f (nI_nle (by omega) (by omega)) ⟨hin, br_t ?_ (hk s0 (fun _ _ => rfl) (by rw [if_pos (by omega)]; exact hst))⟩
    rw [hst]
    exact nI_pos' (by omega)
  · rw [if_neg q] at hst
    have found : ∀ s : Nat → Int32, (∀ u, u ≠ t → s u = s0 u) → s t = nI (d + 1) → (∃ w, a.2.1 t w = true ∧ dst a.2.1 x w = d) → kx s := by
      rintro s h1 h2 ⟨w, e, hw⟩
      have := dst_up hn ok hx e (by omega)
      refine hk s h1 ?_
      rw [if_pos (by omega), h2]
      congr 1
      omega
    refine pk_loop (σ := Nat → Int32) (fun k i s => lp_X8_findFar_55 (nI n) all (nI d) (nI t) k s (nI i) kx) (fun i s => (∀ u, u ≠ t → s u = s0 u) ∧ ((s t = -1 ∧ ∀ w, w < i → a.2.1 t w = true → dst a.2.1 x w ≠ d) ∨ (s t = nI (d + 1) ∧ ∃ w, a.2.1 t w = true ∧ dst a.2.1 x w = d))) n 0 s0 (Nat.zero_le n) ⟨fun _ _ => rfl, Or.inl ⟨hst, fun w hw => absurd hw (by omega)⟩⟩ ?_ ?_
    · intro k s hI
      show lp_X8_findFar_55 _ _ _ _ (k + 1) s (nI n) _
      rw [lp_X8_findFar_55]
      refine br_t (nI_le (Nat.le_refl n) (by omega)) ?_
      rcases hI.2 with ⟨g1, g2⟩ | ⟨g1, g2⟩
      · refine hk s hI.1 ?_
        rw [if_neg, g1]
        intro r
        obtain ⟨w, e, hw⟩ := dst_dn hn ok (t := t) hx (m := d) (by omega) (by omega)
        exact g2 w (ok.2.1 t w e).2.1 e hw
      · exact found s hI.1 g1 g2
    · intro k i s hi hI ih
      show lp_X8_findFar_55 _ _ _ _ (k + 1) s (nI i) _
      rw [lp_X8_findFar_55, ecl]
      refine br_f (nI_ge hi (by omega)) ⟨hin, ?_⟩
      rcases hI.2 with ⟨g1, g2⟩ | ⟨g1, g2⟩
      · refine br_f (by rw [g1]; decide) (sp_tied8 hb (by omega) (by omega) (fun e => br_f (by decide) ⟨vp_in_nI (by omega) (by omega), ?_⟩) (fun e => br_t rfl ⟨hin, hin, fun s2 es2 z ez => ?_⟩))
        · rw [nI_cl (by omega)]
          have hE := ok.2.1 t i e
          have hit : i ≠ t := fun r => by rw [r] at hE; omega
          rw [hI.1 i hit]
          refine br_c (fun c => ⟨hin, fun s2 es2 z ez => ?_⟩) (fun c => ⟨hin, hin, fun s2 es2 z ez => ?_⟩)
          · rw [ez, nI_1]
            refine ih s2 ⟨fun u hu => by rw [es2, pk_un hu]; exact hI.1 u hu, Or.inr ⟨by rw [es2, pk_us, nI_1], i, e, (h0 i hi).mp c⟩⟩
          · rw [ez, nI_1]
            refine ih s2 ⟨fun u hu => by rw [es2, pk_un hu]; exact hI.1 u hu, Or.inl ⟨by rw [es2, pk_us]; exact g1, fun w hw ew => ?_⟩⟩
            by_cases r : w = i
            · rw [r]; exact fun g => c ((h0 i hi).mpr g)
            · exact g2 w (by omega) ew
        · rw [ez, nI_1]
          refine ih s2 ⟨fun u hu => by rw [es2, pk_un hu]; exact hI.1 u hu, Or.inl ⟨by rw [es2, pk_us]; exact g1, fun w hw ew => ?_⟩⟩
          by_cases r : w = i
          · rw [r, e] at ew; cases ew
          · exact g2 w (by omega) ew
      · exact br_t (by rw [g1]; exact nI_pos' (by omega)) (found s hI.1 g1 g2)
theorem ff_44 {n x d : Nat} {a : An} {all s0 : Nat → Int32} (hn : n ≤ 60) (ok : rl_ok n a) (hb : rl_blk n a all) (hx : x < n) (hd : d < n) (h0 : ∀ u, u < n → s0 u = fv n a x d u) {kx : (Nat → Int32) → Prop} (hk : ∀ s, (∀ u, u < n → s u = fv n a x (d + 1) u) → kx s) : ∃ k, lp_X8_findFar_44 (nI n) all (nI d) k s0 0 kx := by
  refine pk_loop (σ := Nat → Int32) (fun k i s => lp_X8_findFar_44 (nI n) all (nI d) k s (nI i) kx) (fun i s => ∀ u, u < n → s u = if u < i then fv n a x (d + 1) u else fv n a x d u) n 0 s0 (Nat.zero_le n) (fun u hu => by rw [if_neg (by omega)]; exact h0 u hu) ?_ ?_
  · intro k s hI
    show lp_X8_findFar_44 _ _ _ (k + 1) s (nI n) _
    rw [lp_X8_findFar_44]
    exact br_t (nI_le (Nat.le_refl n) (by omega)) (hk s (fun u hu => by rw [hI u hu, if_pos hu]))
  · intro k i s hi hI ih
    show lp_X8_findFar_44 _ _ _ (k + 1) s (nI i) _
    rw [lp_X8_findFar_44]
    refine br_f (nI_ge hi (by omega)) (ff_55 hn ok hb hx hi hd (fun u hu => ?_) (by rw [hI i hi, if_neg (by omega)]) (fun s2 h1 h2 z ez => ?_))
    · rw [hI u hu]
      have hl := dst_lim hn ok hx (t := u)
      unfold fv
      by_cases q1 : u < i
      · rw [if_pos q1]
        by_cases q2 : dst a.2.1 x u ≤ d + 1
        · rw [if_pos q2]
          exact ⟨fun e => nI_inj (by omega) (by omega) e, fun e => by rw [e]⟩
        · rw [if_neg q2]
          exact ⟨fun e => absurd e.symm (nI_m1 (by omega)), fun e => by omega⟩
      · rw [if_neg q1]
        by_cases q2 : dst a.2.1 x u ≤ d
        · rw [if_pos q2]
          exact ⟨fun e => nI_inj (by omega) (by omega) e, fun e => by rw [e]⟩
        · rw [if_neg q2]
          exact ⟨fun e => absurd e.symm (nI_m1 (by omega)), fun e => by omega⟩
    · rw [ez, nI_1]
      refine ih s2 (fun u hu => ?_)
      by_cases q : u = i
      · rw [q, if_pos (by omega)]; exact h2
      · rw [h1 u q, hI u hu]
        by_cases q1 : u < i
        · rw [if_pos q1, if_pos (by omega)]
        · rw [if_neg q1, if_neg (by omega)]
theorem sp_findFar8 {n x : Nat} {a : An} {size : Int32} {all far : Nat → Int32} (hn : n ≤ 60) (ok : rl_ok n a) (hs : size = nI n) (hb : rl_blk n a all) (hx : x < n) {post : (Nat → Int32) → Prop} (hp : ∀ s, (∀ u, u < n → s u = fv n a x n u) → post s) : wp_X8_findFar size all far (nI x) post := by
  subst hs
  unfold wp_X8_findFar
  have second : ∀ s0 : Nat → Int32, (∀ u, u < n → s0 u = fv n a x 0 u) → ∃ k, lp_X8_findFar_34 (nI n) all k s0 0 (fun w => post w) := by
    intro s0 h0
    refine pk_loop (σ := Nat → Int32) (fun k i s => lp_X8_findFar_34 (nI n) all k s (nI i) (fun w => post w)) (fun i s => ∀ u, u < n → s u = fv n a x i u) n 0 s0 (Nat.zero_le n) h0 ?_ ?_
    · intro k s hI
      show lp_X8_findFar_34 _ _ (k + 1) s (nI n) _
      rw [lp_X8_findFar_34]
      exact br_t (nI_le (Nat.le_refl n) (by omega)) (hp s hI)
    · intro k i s hi hI ih
      show lp_X8_findFar_34 _ _ (k + 1) s (nI i) _
      rw [lp_X8_findFar_34]
      refine br_f (nI_ge hi (by omega)) (ff_44 hn ok hb hx hi hI (fun s2 h2 z ez => ?_))
      rw [ez, nI_1]
      exact ih s2 h2
  refine pk_loop (σ := Nat → Int32) (fun k i s => lp_X8_findFar_2 (nI n) (nI x) k s (nI i) (fun w => ∃ n34 : Nat, lp_X8_findFar_34 (nI n) all n34 w 0 (fun w2 => post w2))) (fun i s => ∀ u, u < i → s u = fv n a x 0 u) n 0 far (Nat.zero_le n) (fun u hu => absurd hu (by omega)) ?_ ?_
  · intro k s hI
    show lp_X8_findFar_2 _ _ (k + 1) s (nI n) _
    rw [lp_X8_findFar_2]
    exact br_t (nI_le (Nat.le_refl n) (by omega)) (second s hI)
  · intro k i s hi hI ih
    show lp_X8_findFar_2 _ _ (k + 1) s (nI i) _
    rw [lp_X8_findFar_2, nI_cl (by omega)]
    have step : ∀ v, v = fv n a x 0 i → ∀ u, u < i + 1 → upd s i v u = fv n a x 0 u := by
      intro v hv u hu
      by_cases e : u = i
      · rw [e, pk_us]; exact hv
      · rw [pk_un e]; exact hI u (by omega)
    refine br_f (nI_ge hi (by omega)) (br_c (fun c => ⟨vp_in_nI (by omega) (by omega), fun s2 es2 z ez => ?_⟩) (fun c => ⟨vp_in_nI (by omega) (by omega), fun s2 es2 z ez => ?_⟩))
    · rw [ez, nI_1, es2]
      refine ih _ (step 0 ?_)
      have : i = x := nI_inj (by omega) (by omega) c
      unfold fv
      rw [this, dst_0, if_pos (Nat.le_refl 0)]
      rfl
    · rw [ez, nI_1, es2]
      refine ih _ (step (-1) ?_)
      unfold fv
      rw [if_neg]
      intro q
      exact c (by rw [dst_z hn ok hx (t := i) (by omega)])
theorem sp_findWitness8 {n x y : Nat} {a : An} {size ws0 : Int32} {all wit far : Nat → Int32} (hn : n ≤ 60) (ok : rl_ok n a) (hs : size = nI n) (hb : rl_blk n a all) (hx : x < n) (hy : y < n) (hr : Rch a.2.1 y x) {post : Int32 → (Nat → Int32) → (Nat → Int32) → Prop} (hp : ∀ w f, (∀ i, i ≤ dst a.2.1 x y → w i = nI (wk n a.2.1 x y i)) → post (nI (dst a.2.1 x y + 1)) w f) : wp_X8_findWitness size ws0 all wit far (nI y) (nI x) post := by
  unfold wp_X8_findWitness
  have hpx := ok.2.2.1 x hx
  have hd := dst_b ok hr
  refine sp_findFar8 hn ok hs hb hx (fun f hf => ⟨vp_in_nI (n := 0) (by omega) (by omega), fun w0 ew0 => ?_⟩)
  have ew1 : w0 = upd wit 0 (nI y) := ew0
  have step := wk_ok hn ok hx hy (by omega : dst a.2.1 x y < 1000)
  have hval : ∀ u, u < n → dst a.2.1 x u ≤ n → f u = nI (dst a.2.1 x u) := fun u hu q => by rw [hf u hu]; unfold fv; rw [if_pos q]
  refine pk_loop (σ := Nat → Int32) (fun k i s => lp_X8_findWitness_19 all f (nI x) k (nI (i + 1)) s (nI (wk n a.2.1 x y i)) (fun l r => post l r f)) (fun i s => ∀ j, j ≤ i → s j = nI (wk n a.2.1 x y j)) (dst a.2.1 x y) 0 w0 (Nat.zero_le _) (fun j hj => by rw [ew1, show j = 0 by omega, pk_us]; rfl) ?_ ?_
  · intro k s hI
    show lp_X8_findWitness_19 _ _ _ (k + 1) (nI (dst a.2.1 x y + 1)) s (nI (wk n a.2.1 x y (dst a.2.1 x y))) _
    rw [lp_X8_findWitness_19]
    have := (step _ (Nat.le_refl _)).2.2
    refine br_t ?_ (hp s f hI)
    rw [dst_z hn ok hx (t := wk n a.2.1 x y (dst a.2.1 x y)) (by omega)]
  · intro k i s hi hI ih
    show lp_X8_findWitness_19 _ _ _ (k + 1) (nI (i + 1)) s (nI (wk n a.2.1 x y i)) _
    rw [lp_X8_findWitness_19]
    obtain ⟨g1, g2, g3⟩ := step i (by omega)
    have hpos : dst a.2.1 x (wk n a.2.1 x y i) ≠ 0 := by omega
    obtain ⟨k1, k2, k3, k4⟩ := nx_ok hn ok hx (t := wk n a.2.1 x y i) (by omega) (by omega)
    have ft : f (wk n a.2.1 x y i) - 1 = nI (dst a.2.1 x (nx n a.2.1 x (wk n a.2.1 x y i))) := by
      rw [hval _ g1 (by omega), ← k3, nI_pred]
    refine br_f (fun c => hpos ?_) ?_
    · have : wk n a.2.1 x y i = x := nI_inj (by omega) (by omega) c
      rw [this, dst_0]
    · refine pk_loop (σ := Unit) (fun k2 z _ => lp_X8_findWitness_27 all f (nI x) (nI (wk n a.2.1 x y i)) k2 (nI z) (fun x4 => vp_in (nI (i + 1)) 61 ∧ ∀ v : Nat → Int32, v = upd s (nI (i + 1)).toNatClampNeg x4 → ∀ l : Int32, l = nI (i + 1) + 1 → lp_X8_findWitness_19 all f (nI x) k l v x4 (fun l r => post l r f))) (fun _ _ => True) (nx n a.2.1 x (wk n a.2.1 x y i)) 0 () (Nat.zero_le _) trivial ?_ ?_
      · intro k5 _ _
        show lp_X8_findWitness_27 _ _ _ _ (k5 + 1) (nI (nx n a.2.1 x (wk n a.2.1 x y i))) _
        rw [lp_X8_findWitness_27]
        refine sp_tied8 hb (by omega) (by omega) (fun e => br_f (by decide) ⟨vp_in_nI (by omega) (by omega), vp_in_nI (by omega) (by omega), ?_⟩) (fun e => by rw [k2] at e; cases e)
        rw [nI_cl (by omega), nI_cl (by omega), ft, hval _ k1 (by omega)]
        refine br_t rfl ⟨vp_in_nI (by omega) (by omega), fun v ev l el => ?_⟩
        rw [el, nI_1]
        rw [nI_cl (by omega)] at ev
        refine ih v (fun j hj => ?_)
        rw [ev]
        by_cases e : j = i + 1
        · rw [e, pk_us]; rfl
        · rw [pk_un e]; exact hI j (by omega)
      · intro k5 z _ hz _ ih2
        show lp_X8_findWitness_27 _ _ _ _ (k5 + 1) (nI z) _
        rw [lp_X8_findWitness_27]
        refine sp_tied8 hb (by omega) (by omega) (fun e => br_f (by decide) ⟨vp_in_nI (by omega) (by omega), vp_in_nI (by omega) (by omega), ?_⟩) (fun e => br_t rfl (fun zz ezz => ?_))
        · rw [nI_cl (by omega), nI_cl (by omega), ft]
          refine br_f (fun c => ?_) (fun zz ezz => ?_)
          · rw [hf z (by omega)] at c
            unfold fv at c
            by_cases q : dst a.2.1 x z ≤ n
            · rw [if_pos q] at c
              have := nI_inj (by omega) (by omega) c
              exact k4 z hz ⟨e, by omega⟩
            · rw [if_neg q] at c
              exact nI_m1 (by omega) c.symm
          · rw [ezz, nI_1]
            exact ih2 () trivial
        · rw [ezz, nI_1]
          exact ih2 () trivial
