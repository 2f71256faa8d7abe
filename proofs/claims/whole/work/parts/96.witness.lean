theorem sp_fill {N : Nat} (hN : N < 2 ^ 31) {w : Nat → Int32} {v : Int32} {post : (Nat → Int32) → Prop} (h : ∀ g, (∀ j, j < N → g j = v) → post g) : wp_J7_fill_53178 w v N post := by
  unfold wp_J7_fill_53178
  intro x3 e3
  have e4 : x3 = nI N := e3
  subst e4
  refine pk_loop (σ := Nat → Int32) (fun k i s => lp_J7_fill_53178_5 v (nI N) N k s (nI i) (fun w => post w)) (fun i s => ∀ j, j < i → s j = v) N 0 w (Nat.zero_le N) (fun j hj => absurd hj (by omega)) ?_ ?_
  · intro k s hI
    show lp_J7_fill_53178_5 _ _ _ (k + 1) s (nI N) _
    rw [lp_J7_fill_53178_5]
    exact br_t (nI_le (Nat.le_refl N) hN) (h s hI)
  · intro k i s hi hI ih
    show lp_J7_fill_53178_5 _ _ _ (k + 1) s (nI i) _
    rw [lp_J7_fill_53178_5]
    refine br_f (nI_ge hi hN) ⟨vp_in_nI hi hN, fun g eg z ez => ?_⟩
    rw [ez, nI_1]
    rw [nI_clamp (by omega)] at eg
    refine ih g (fun j hj => ?_)
    rw [eg]
    by_cases q : j = i
    · rw [q, pk_us]
    · rw [pk_un q]; exact hI j (by omega)
/-- how many ties away from x -/
theorem rk_min {E : Nat → Nat → Bool} {t x : Nat} : ∀ (k : Nat), rk E k t x → ∃ d, rk E d t x ∧ ∀ j, j < d → ¬ rk E j t x := by
  intro k
  induction k using Nat.strongRecOn with
  | ind k ih =>
    intro h
    by_cases q : ∃ j, j < k ∧ rk E j t x
    · obtain ⟨j, hj, hr⟩ := q
      exact ih j hj hr
    · exact ⟨k, h, fun j hj hr => q ⟨j, hj, hr⟩⟩
noncomputable def dst (E : Nat → Nat → Bool) (x t : Nat) : Nat := @dite Nat (∃ d, rk E d t x ∧ ∀ j, j < d → ¬ rk E j t x) (Classical.propDecidable _) (fun h => Classical.choose h) (fun _ => 1000)
theorem dst_r {E : Nat → Nat → Bool} {x t : Nat} (h : Rch E t x) : rk E (dst E x t) t x ∧ ∀ j, j < dst E x t → ¬ rk E j t x := by
  obtain ⟨k, hk⟩ := h
  have h := rk_min k hk
  unfold dst
  rw [dif_pos h]
  exact Classical.choose_spec h
theorem dst_n {E : Nat → Nat → Bool} {x t : Nat} (h : ¬ Rch E t x) : dst E x t = 1000 := by
  unfold dst
  rw [dif_neg (fun ⟨d, hd, _⟩ => h ⟨d, hd⟩)]
theorem dst_le {E : Nat → Nat → Bool} {x t k : Nat} (h : rk E k t x) : dst E x t ≤ k := by
  rcases Nat.lt_or_ge k (dst E x t) with q | q
  · exact absurd h ((dst_r ⟨k, h⟩).2 k q)
  · exact q
theorem dst_0 {E : Nat → Nat → Bool} {x : Nat} : dst E x x = 0 := by
  have : rk E 0 x x := rfl
  have := dst_le this
  omega
theorem rk_len {n : Nat} {a : An} (ok : rl_ok n a) : ∀ {k t x : Nat}, rk a.2.1 k t x → a.2.2 t + k ≤ a.2.2 x
  | 0, t, x, h => by have h : t = x := h; rw [h]; exact Nat.le_refl _
  | k + 1, t, x, h => by
    obtain ⟨w, h1, h2⟩ := h
    have := rk_len ok h2
    have := (ok.2.1 t w h1).2.2
    omega
theorem dst_b {n : Nat} {a : An} (ok : rl_ok n a) {x t : Nat} (h : Rch a.2.1 t x) : a.2.2 t + dst a.2.1 x t ≤ a.2.2 x := rk_len ok (dst_r h).1
theorem dst_lim {n : Nat} {a : An} (hn : n ≤ 60) (ok : rl_ok n a) {x t : Nat} (hx : x < n) : dst a.2.1 x t ≤ 1000 := by
  by_cases h : Rch a.2.1 t x
  · have := dst_b ok h
    have := ok.2.2.1 x hx
    omega
  · rw [dst_n h]; exact Nat.le_refl _
theorem dst_s {n : Nat} {a : An} (hn : n ≤ 60) (ok : rl_ok n a) {x t : Nat} (hx : x < n) (h : dst a.2.1 x t < 1000) : Rch a.2.1 t x := by
  refine Classical.byContradiction (fun q => ?_)
  rw [dst_n q] at h
  omega
theorem dst_up {n : Nat} {a : An} (hn : n ≤ 60) (ok : rl_ok n a) {x t w : Nat} (hx : x < n) (e : a.2.1 t w = true) (h : dst a.2.1 x w < 1000) : dst a.2.1 x t ≤ dst a.2.1 x w + 1 := dst_le ⟨w, e, (dst_r (dst_s hn ok hx h)).1⟩
theorem dst_dn {n : Nat} {a : An} (hn : n ≤ 60) (ok : rl_ok n a) {x t m : Nat} (hx : x < n) (h : dst a.2.1 x t = m + 1) (hm : m + 1 < 1000) : ∃ w, a.2.1 t w = true ∧ dst a.2.1 x w = m := by
  have hr := (dst_r (dst_s hn ok hx (by omega : dst a.2.1 x t < 1000))).1
  rw [h] at hr
  obtain ⟨w, e, hw⟩ := hr
  have h1 := dst_le hw
  have h2 := dst_up hn ok hx e (by omega)
  exact ⟨w, e, by omega⟩
theorem dst_z {n : Nat} {a : An} (hn : n ≤ 60) (ok : rl_ok n a) {x t : Nat} (hx : x < n) (h : dst a.2.1 x t = 0) : t = x := by
  have hr := (dst_r (dst_s hn ok hx (by omega : dst a.2.1 x t < 1000))).1
  rw [h] at hr
  exact hr
theorem dst_fix {n : Nat} {a : An} (hn : n ≤ 60) (ok : rl_ok n a) {x t b : Nat} (hx : x < n) (ht : t ≠ x) (h1 : b ≤ 1000) (h2 : ∀ w, a.2.1 t w = true → b ≤ dst a.2.1 x w + 1) (h3 : b = 1000 ∨ ∃ w, a.2.1 t w = true ∧ b = dst a.2.1 x w + 1) : b = dst a.2.1 x t := by
  by_cases h : dst a.2.1 x t < 1000
  · have hne : dst a.2.1 x t ≠ 0 := fun q => ht (dst_z hn ok hx q)
    obtain ⟨w, e, hw⟩ := dst_dn hn ok (t := t) hx (m := dst a.2.1 x t - 1) (by omega) (by omega)
    have := h2 w e
    rcases h3 with q | ⟨v, e2, q⟩
    · omega
    · have := dst_up hn ok hx e2 (by omega)
      omega
  · have hl := dst_lim hn ok hx (t := t)
    rcases h3 with q | ⟨v, e2, q⟩
    · omega
    · have := dst_up hn ok hx e2 (by omega)
      omega
theorem gmin {a b : Nat} (ha : a < 2 ^ 31) (hb : b < 2 ^ 31) : gb_min (nI a) (nI b) = nI (min a b) := by
  unfold gb_min
  by_cases h : b < a
  · rw [if_pos (nI_lt h ha)]; congr 1; omega
  · rw [if_neg (nI_nlt (by omega) hb)]; congr 1; omega
theorem sp_measure4 {n x y : Nat} {a : An} {tasks ties : Int32} {weight : Nat → Int32} {after before : Nat → Int64} {placeOf taskAt : Nat → Int32} (hn : n ≤ 60) (ok : rl_ok n a) (h : rl_net n a tasks ties weight after before placeOf taskAt) (hx : x < n) (hy : y < n) (hyx : a.2.2 y ≤ a.2.2 x) {aw : Nat → Int32} {post : (Nat → Int32) → Prop} (hp : ∀ w, (∀ t, t < n → w t = nI (if a.2.2 y ≤ a.2.2 t then dst a.2.1 x t else 1000)) → post w) : wp_X4_measure aw tasks after placeOf taskAt (nI y) (nI x) post := by
  have hs := h.1
  subst hs
  have hpx := ok.2.2.1 x hx
  have hpy := ok.2.2.1 y hy
  unfold wp_X4_measure
  refine sp_fill (by omega) (fun g hg => ⟨vp_in_nI (by omega) (by omega), fun aw1 eaw1 => ⟨vp_in_nI (by omega) (by omega), fun x4 e4 => ?_⟩⟩)
  rw [nI_cl (by omega)] at eaw1
  rw [nI_cl (by omega), h.2.2.2.2.2.1 x hx] at e4
  subst e4
  have far : ∀ t, t < n → a.2.2 x < a.2.2 t → dst a.2.1 x t = 1000 := fun t ht q => dst_n (fun r => by have := Rch_pl ok r; omega)
  have eyp : placeOf (nI y).toNatClampNeg = nI (a.2.2 y) := by rw [nI_cl (by omega)]; exact h.2.2.2.2.2.1 y hy
  refine ⟨a.2.2 x + 1, pk_loopD (σ := Nat → Int32) (fun k i s => lp_X4_measure_27 (nI n) after placeOf taskAt (nI y) k s (nI i - 1) (fun w => post w)) (fun i s => i ≤ a.2.2 x ∧ ∀ t, t < n → s t = nI (if i ≤ a.2.2 t ∧ a.2.2 y ≤ a.2.2 t then dst a.2.1 x t else 1000)) ?_ ?_ (a.2.2 x) aw1 ⟨Nat.le_refl _, fun t ht => ?_⟩⟩
  · intro k s hI
    show lp_X4_measure_27 _ _ _ _ _ (k + 1) s (nI 0 - 1) _
    rw [lp_X4_measure_27, eyp]
    refine ⟨vp_in_nI (by omega) (by omega), br_t ?_ (hp s (fun t ht => ?_))⟩
    · rw [Int32.lt_iff_toInt_lt, nI_toInt (by omega), show (nI 0 - 1 : Int32).toInt = -1 from by decide]; omega
    · rw [hI.2 t ht]
      by_cases q : a.2.2 y ≤ a.2.2 t
      · rw [if_pos q, if_pos ⟨Nat.zero_le _, q⟩]
      · rw [if_neg q, if_neg (fun r => q r.2)]
  · intro k i s hI ih
    show lp_X4_measure_27 _ _ _ _ _ (k + 1) s (nI (i + 1) - 1) _
    rw [lp_X4_measure_27, nI_pred, eyp]
    have hi : i < n := by have := hI.1; omega
    refine ⟨vp_in_nI (by omega) (by omega), ?_⟩
    by_cases q : i < a.2.2 y
    · refine br_t (nI_lt q (by omega)) (hp s (fun t ht => ?_))
      rw [hI.2 t ht]
      by_cases q2 : a.2.2 y ≤ a.2.2 t
      · rw [if_pos q2, if_pos ⟨by omega, q2⟩]
      · rw [if_neg q2, if_neg (fun r => q2 r.2)]
    · obtain ⟨t, ht, et⟩ := rl_surj ok hi
      have htx : t ≠ x := fun e => by have := hI.1; rw [e] at et; omega
      refine br_f (nI_nlt (by omega) (by omega)) ⟨vp_in_nI (by omega) (by omega), fun x5 e5 => ?_⟩
      have e9 : x5 = nI t := by rw [e5, nI_cl (by omega), ← et]; exact h.2.2.2.2.2.2 t ht
      subst e9
      have hin : vp_in (nI t) 60 := vp_in_nI (by omega) (by omega)
      have ecl : (nI t).toNatClampNeg = t := nI_cl (by omega)
      have hst : s t = nI 1000 := by rw [hI.2 t ht, if_neg (by omega)]
      refine pk_loop (σ := Nat → Int32) (fun k2 z w => lp_X4_measure_50 (nI n) after (nI y) (nI i) (nI t) k2 w (nI z) (fun w2 => ∀ x4_20 : Int32, x4_20 = nI i + (-1) → lp_X4_measure_27 (nI n) after placeOf taskAt (nI y) k w2 x4_20 (fun w => post w))) (fun z w => (∀ u, u ≠ t → w u = s u) ∧ ∃ b, w t = nI b ∧ b ≤ 1000 ∧ (∀ v, v < z → a.2.1 t v = true → b ≤ dst a.2.1 x v + 1) ∧ (b = 1000 ∨ ∃ v, a.2.1 t v = true ∧ b = dst a.2.1 x v + 1)) n 0 s (Nat.zero_le n) ⟨fun _ _ => rfl, 1000, hst, Nat.le_refl _, fun v hv => absurd hv (by omega), Or.inl rfl⟩ ?_ ?_
      · intro k2 w hJ
        show lp_X4_measure_50 _ _ _ _ _ (k2 + 1) w (nI n) _
        rw [lp_X4_measure_50]
        refine br_t (nI_le (Nat.le_refl n) (by omega)) (fun z ez => ?_)
        rw [ez, i32_m1]
        obtain ⟨b, eb, h1, h2, h3⟩ := hJ.2
        have hb := dst_fix hn ok hx htx h1 (fun v hv => h2 v (ok.2.1 t v hv).2.1 hv) h3
        refine ih w ⟨by have := hI.1; omega, fun u hu => ?_⟩
        by_cases q2 : u = t
        · rw [q2, eb, hb, if_pos (by omega)]
        · rw [hJ.1 u q2, hI.2 u hu]
          have : a.2.2 u ≠ i := fun p => q2 (ok.2.2.2.1 u t hu ht (by omega))
          by_cases q3 : i + 1 ≤ a.2.2 u ∧ a.2.2 y ≤ a.2.2 u
          · rw [if_pos q3, if_pos ⟨by omega, q3.2⟩]
          · rw [if_neg q3, if_neg (fun r => q3 ⟨by omega, r.2⟩)]
      · intro k2 z w hz hJ ih2
        show lp_X4_measure_50 _ _ _ _ _ (k2 + 1) w (nI z) _
        rw [lp_X4_measure_50]
        obtain ⟨b, eb, h1, h2, h3⟩ := hJ.2
        refine br_f (nI_ge hz (by omega)) (sp_hasTie h (by omega) (by omega) (fun e => br_f (by decide) ⟨hin, vp_in_nI (by omega) (by omega), hin, fun w2 ew2 zz ezz => ?_⟩) (fun e => br_t rfl (fun zz ezz => ?_)))
        · rw [ezz, nI_1]
          have hE := ok.2.1 t z e
          have hl := dst_lim hn ok hx (t := z)
          have hzt : z ≠ t := fun r => by rw [r] at hE; omega
          rw [ecl, nI_cl (by omega), eb, hJ.1 z hzt, hI.2 z hz, if_pos ⟨by omega, by omega⟩, nI_1, gmin (by omega) (by omega)] at ew2
          refine ih2 w2 ⟨fun u hu => by rw [ew2, pk_un hu]; exact hJ.1 u hu, min b (dst a.2.1 x z + 1), by rw [ew2, pk_us], by omega, fun v hv ev => ?_, ?_⟩
          · by_cases r : v = z
            · rw [r]; omega
            · have := h2 v (by omega) ev; omega
          · by_cases r : b ≤ dst a.2.1 x z + 1
            · rw [Nat.min_eq_left r]; exact h3
            · rw [Nat.min_eq_right (by omega)]; exact Or.inr ⟨z, e, rfl⟩
        · rw [ezz, nI_1]
          refine ih2 w ⟨hJ.1, b, eb, h1, fun v hv ev => ?_, h3⟩
          by_cases r : v = z
          · rw [r, e] at ev; cases ev
          · exact h2 v (by omega) ev
  · rw [eaw1]
    by_cases q : t = x
    · rw [q, pk_us, if_pos ⟨Nat.le_refl _, hyx⟩, dst_0]; rfl
    · rw [pk_un q, hg t (by omega)]
      by_cases q2 : a.2.2 x ≤ a.2.2 t ∧ a.2.2 y ≤ a.2.2 t
      · have : a.2.2 t ≠ a.2.2 x := fun r => q (ok.2.2.2.1 t x ht hx r)
        rw [if_pos q2, far t ht (by omega)]; rfl
      · rw [if_neg q2]; rfl
/-- the next of the way: the least that is one tie nearer -/
def isNx (n : Nat) (E : Nat → Nat → Bool) (x t w : Nat) : Prop := w < n ∧ E t w = true ∧ dst E x w + 1 = dst E x t ∧ ∀ z, z < w → ¬ (E t z = true ∧ dst E x z + 1 = dst E x t)
theorem least_ex {P : Nat → Prop} : ∀ k, P k → ∃ w, P w ∧ ∀ z, z < w → ¬ P z := by
  intro k
  induction k using Nat.strongRecOn with
  | ind k ih =>
    intro h
    by_cases q : ∃ j, j < k ∧ P j
    · obtain ⟨j, hj, hr⟩ := q
      exact ih j hj hr
    · exact ⟨k, h, fun j hj hr => q ⟨j, hj, hr⟩⟩
theorem isNx_ex {n : Nat} {a : An} (hn : n ≤ 60) (ok : rl_ok n a) {x t : Nat} (hx : x < n) (h0 : 0 < dst a.2.1 x t) (h : dst a.2.1 x t < 1000) : ∃ w, isNx n a.2.1 x t w := by
  obtain ⟨w, e, hw⟩ := dst_dn hn ok (t := t) hx (m := dst a.2.1 x t - 1) (by omega) (by omega)
  obtain ⟨v, ⟨h1, h2⟩, h3⟩ := least_ex (P := fun z => a.2.1 t z = true ∧ dst a.2.1 x z + 1 = dst a.2.1 x t) w ⟨e, by omega⟩
  exact ⟨v, (ok.2.1 t v h1).2.1, h1, h2, h3⟩
noncomputable def nx (n : Nat) (E : Nat → Nat → Bool) (x t : Nat) : Nat := @dite Nat (∃ w, isNx n E x t w) (Classical.propDecidable _) (fun h => Classical.choose h) (fun _ => 0)
noncomputable def wk (n : Nat) (E : Nat → Nat → Bool) (x y : Nat) : Nat → Nat
  | 0 => y
  | i + 1 => nx n E x (wk n E x y i)
theorem nx_ok {n : Nat} {a : An} (hn : n ≤ 60) (ok : rl_ok n a) {x t : Nat} (hx : x < n) (h0 : 0 < dst a.2.1 x t) (h : dst a.2.1 x t < 1000) : isNx n a.2.1 x t (nx n a.2.1 x t) := by
  have := isNx_ex hn ok hx h0 h
  unfold nx
  rw [dif_pos this]
  exact Classical.choose_spec this
theorem wk_ok {n : Nat} {a : An} (hn : n ≤ 60) (ok : rl_ok n a) {x y : Nat} (hx : x < n) (hy : y < n) (h : dst a.2.1 x y < 1000) : ∀ i, i ≤ dst a.2.1 x y → wk n a.2.1 x y i < n ∧ a.2.2 y ≤ a.2.2 (wk n a.2.1 x y i) ∧ dst a.2.1 x (wk n a.2.1 x y i) + i = dst a.2.1 x y
  | 0, _ => ⟨hy, Nat.le_refl _, rfl⟩
  | i + 1, hi => by
    obtain ⟨h1, h2, h3⟩ := wk_ok hn ok hx hy h i (by omega)
    obtain ⟨g1, g2, g3, g4⟩ := nx_ok hn ok hx (t := wk n a.2.1 x y i) (by omega) (by omega)
    refine ⟨g1, ?_, ?_⟩
    · have := (ok.2.1 _ _ g2).2.2
      show _ ≤ a.2.2 (nx n a.2.1 x (wk n a.2.1 x y i))
      omega
    · show dst a.2.1 x (nx n a.2.1 x (wk n a.2.1 x y i)) + (i + 1) = _
      omega
theorem sp_nearer {n t : Nat} {a : An} {tasks ties : Int32} {weight : Nat → Int32} {after before : Nat → Int64} {placeOf taskAt : Nat → Int32} (hn : n ≤ 60) (h : rl_net n a tasks ties weight after before placeOf taskAt) (ht : t < n) {aw : Nat → Int32} {post : Int32 → Prop} (hp : ∀ r, isL n (fun z => a.2.1 t z = true ∧ aw z = aw t - 1) r → post r) : wp_X4_nearer aw tasks after (nI t) post := by
  have hs := h.1
  subst hs
  unfold wp_X4_nearer
  refine pk_loop (σ := Unit) (fun k i _ => lp_X4_nearer_2 aw (nI n) after (nI t) post k (nI i) (post (-1))) (fun i _ => ∀ z, z < i → ¬ (a.2.1 t z = true ∧ aw z = aw t - 1)) n 0 () (Nat.zero_le n) (fun x hx => absurd hx (by omega)) ?_ ?_
  · intro k _ hI
    show lp_X4_nearer_2 _ _ _ _ _ (k + 1) (nI n) _
    rw [lp_X4_nearer_2]
    exact br_t (nI_le (Nat.le_refl n) (by omega)) (hp _ (Or.inr ⟨hI, rfl⟩))
  · intro k i _ hi hI ih
    show lp_X4_nearer_2 _ _ _ _ _ (k + 1) (nI i) _
    rw [lp_X4_nearer_2]
    have step : ¬ (a.2.1 t i = true ∧ aw i = aw t - 1) → ∀ z, z < i + 1 → ¬ (a.2.1 t z = true ∧ aw z = aw t - 1) := by
      intro q z hz
      by_cases e : z = i
      · rw [e]; exact q
      · exact hI z (by omega)
    refine br_f (nI_ge hi (by omega)) (sp_hasTie h (by omega) (by omega) (fun e => br_f (by decide) ⟨vp_in_nI (by omega) (by omega), vp_in_nI (by omega) (by omega), ?_⟩) (fun e => br_t rfl (fun z ez => ?_)))
    · rw [nI_cl (by omega), nI_cl (by omega)]
      refine br_c (fun c => hp _ (Or.inl ⟨i, hi, ⟨e, c⟩, hI, rfl⟩)) (fun c z ez => ?_)
      rw [ez, nI_1]
      exact ih () (step (fun p => c p.2))
    · rw [ez, nI_1]
      exact ih () (step (fun p => by have p1 := p.1; rw [e] at p1; cases p1))
theorem isL_congr {n : Nat} {P Q : Nat → Prop} {r : Int32} (h : ∀ z, z < n → (P z ↔ Q z)) (g : isL n P r) : isL n Q r := by
  rcases g with ⟨x, h1, h2, h3, h4⟩ | ⟨h1, h2⟩
  · exact Or.inl ⟨x, h1, (h x h1).mp h2, fun y hy q => h3 y hy ((h y (by omega)).mpr q), h4⟩
  · exact Or.inr ⟨fun x hx q => h1 x hx ((h x hx).mpr q), h2⟩
theorem sp_find {n x y : Nat} {a : An} {tasks ties : Int32} {weight : Nat → Int32} {after before : Nat → Int64} {placeOf taskAt : Nat → Int32} (hn : n ≤ 60) (ok : rl_ok n a) (h : rl_net n a tasks ties weight after before placeOf taskAt) (hx : x < n) (hy : y < n) (hr : Rch a.2.1 y x) {len : Int32} {row aw : Nat → Int32} {post : Int32 → (Nat → Int32) → (Nat → Int32) → Prop} (hp : ∀ rw1 w, (∀ i, i ≤ dst a.2.1 x y → rw1 i = nI (wk n a.2.1 x y i)) → post (nI (dst a.2.1 x y + 1)) rw1 w) : wp_X4_find len row aw tasks after placeOf taskAt (nI y) (nI x) post := by
  unfold wp_X4_find
  have hpx := ok.2.2.1 x hx
  have hd := dst_b ok hr
  refine sp_measure4 hn ok h hx hy (by omega) (fun w hw => ⟨vp_in_nI (by omega) (by omega), fun x5 e5 => ?_⟩)
  rw [nI_cl (by omega), hw y hy, if_pos (Nat.le_refl _), show (59 : Int32) = nI 59 from rfl, gmin (by omega) (by omega), Nat.min_eq_left (by omega)] at e5
  subst e5
  have step := wk_ok hn ok hx hy (by omega : dst a.2.1 x y < 1000)
  refine pk_loop (σ := (Nat → Int32) × Int32) (fun k i s => lp_X4_find_31 w tasks after (nI (dst a.2.1 x y)) k (nI i) s.1 s.2 (nI i) (fun l r => post l r w)) (fun i s => (∀ j, j < i → s.1 j = nI (wk n a.2.1 x y j)) ∧ (i ≤ dst a.2.1 x y → s.2 = nI (wk n a.2.1 x y i))) (dst a.2.1 x y + 1) 0 (row, nI y) (by omega) ⟨fun j hj => absurd hj (by omega), fun _ => rfl⟩ ?_ ?_
  · intro k s hI
    show lp_X4_find_31 _ _ _ _ (k + 1) (nI (dst a.2.1 x y + 1)) s.1 s.2 (nI (dst a.2.1 x y + 1)) _
    rw [lp_X4_find_31]
    exact br_t (nI_lt (by omega) (by omega)) (hp _ _ (fun i hi => hI.1 i (by omega)))
  · intro k i s hi hI ih
    show lp_X4_find_31 _ _ _ _ (k + 1) (nI i) s.1 s.2 (nI i) _
    rw [lp_X4_find_31]
    obtain ⟨g1, g2, g3⟩ := step i (by omega)
    have es := hI.2 (by omega)
    rw [es]
    refine br_f (nI_nlt (by omega) (by omega)) (br_f (nI_ne1 (by omega)) ⟨vp_in_nI (by omega) (by omega), fun r er l el => ?_⟩)
    rw [el, nI_1]
    rw [nI_cl (by omega)] at er
    refine sp_nearer hn h g1 (fun r2 hr2 z ez => ?_)
    rw [ez]
    refine ih (r, r2) ⟨fun j hj => ?_, fun q => ?_⟩
    · show r j = _
      rw [er]
      by_cases e : j = i
      · rw [e, pk_us]
      · rw [pk_un e]; exact hI.1 j (by omega)
    · show r2 = nI (nx n a.2.1 x (wk n a.2.1 x y i))
      obtain ⟨k1, k2, k3, k4⟩ := nx_ok hn ok hx (t := wk n a.2.1 x y i) (by omega) (by omega)
      refine isL_uni (n := n) (P := fun z => a.2.1 (wk n a.2.1 x y i) z = true ∧ dst a.2.1 x z + 1 = dst a.2.1 x (wk n a.2.1 x y i)) (isL_congr (fun z hz => ?_) hr2) (Or.inl ⟨_, k1, ⟨k2, k3⟩, k4, rfl⟩)
      constructor
      · rintro ⟨e1, e2⟩
        refine ⟨e1, ?_⟩
        have hE := ok.2.1 _ z e1
        have hl := dst_lim hn ok hx (t := z)
        rw [hw z hz, hw _ g1, if_pos (by omega), if_pos g2, show dst a.2.1 x (wk n a.2.1 x y i) = (dst a.2.1 x (wk n a.2.1 x y i) - 1) + 1 by omega, nI_pred] at e2
        have := nI_inj (by omega) (by omega) e2
        omega
      · rintro ⟨e1, e2⟩
        refine ⟨e1, ?_⟩
        have hE := ok.2.1 _ z e1
        rw [hw z hz, hw _ g1, if_pos (by omega), if_pos g2, ← e2, nI_pred]
