theorem rk_snoc {E : Nat → Nat → Bool} : ∀ {k x y z : Nat}, rk E k x y → E y z = true → rk E (k + 1) x z
  | 0, x, y, z, h, e => by
    have h : x = y := h
    subst h
    exact ⟨z, e, rfl⟩
  | k + 1, x, y, z, h, e => by
    obtain ⟨w, h1, h2⟩ := h
    exact ⟨w, h1, rk_snoc h2 e⟩
theorem rk_last {E : Nat → Nat → Bool} : ∀ {k x z : Nat}, rk E (k + 1) x z → ∃ v, rk E k x v ∧ E v z = true
  | 0, x, z, h => by
    obtain ⟨w, h1, h2⟩ := h
    have h2 : w = z := h2
    subst h2
    exact ⟨x, rfl, h1⟩
  | k + 1, x, z, h => by
    obtain ⟨w, h1, h2⟩ := h
    obtain ⟨v, h3, h4⟩ := rk_last h2
    exact ⟨v, ⟨w, h1, h3⟩, h4⟩
theorem rk_pl {n : Nat} {a : An} (ok : rl_ok n a) : ∀ {k x y : Nat}, rk a.2.1 (k + 1) x y → x < n ∧ y < n ∧ a.2.2 x < a.2.2 y
  | 0, x, y, h => by
    obtain ⟨w, h1, h2⟩ := h
    have h2 : w = y := h2
    subst h2
    exact ok.2.1 x w h1
  | k + 1, x, y, h => by
    obtain ⟨w, h1, h2⟩ := h
    obtain ⟨q1, q2, q3⟩ := ok.2.1 x w h1
    obtain ⟨p1, p2, p3⟩ := rk_pl ok h2
    exact ⟨q1, p2, by omega⟩
theorem Rch_iff {E : Nat → Nat → Bool} {x y : Nat} : Rch E x y ↔ x = y ∨ ∃ k, rk E (k + 1) x y := by
  constructor
  · rintro ⟨k, h⟩
    cases k with
    | zero => exact Or.inl h
    | succ k => exact Or.inr ⟨k, h⟩
  · rintro (h | ⟨k, h⟩)
    · exact ⟨0, h⟩
    · exact ⟨k + 1, h⟩
theorem sp_spread {n f la : Nat} {a : An} {tasks ties : Int32} {weight : Nat → Int32} {after before : Nat → Int64} {placeOf taskAt : Nat → Int32} (hn : n ≤ 60) (ok : rl_ok n a) (h : rl_net n a tasks ties weight after before placeOf taskAt) {S : Int64} (hla : la < n) (hf : f ≤ n) (hS : ∀ w, w < 64 → bs S w = true → w < n ∧ f ≤ a.2.2 w + 1) {post : Int64 → Prop}
    (hp : ∀ r, (∀ z, z < 64 → (bs r z = true ↔ bs S z = true ∨ (z < n ∧ f ≤ a.2.2 z ∧ a.2.2 z ≤ la ∧ ∃ w k, w < 64 ∧ bs S w = true ∧ rk a.2.1 (k + 1) w z))) → post r) : wp_X2_spread before taskAt S (nI f) (nI la) post := by
  unfold wp_X2_spread
  obtain ⟨e, he1, he2, he3⟩ : ∃ e, f ≤ e ∧ la < e ∧ (∀ i, i < e → f ≤ i → i ≤ la) := by
    by_cases q : la + 1 ≤ f
    · exact ⟨f, Nat.le_refl f, by omega, fun i h1 h2 => by omega⟩
    · exact ⟨la + 1, by omega, by omega, fun i h1 h2 => by omega⟩
  refine pk_loop (σ := Int64) (fun k i s => lp_X2_spread_6 before taskAt (nI la) k s (nI i) (fun x5 => post x5)) (fun i s => f ≤ i ∧ ∀ z, z < 64 → (bs s z = true ↔ bs S z = true ∨ (z < n ∧ f ≤ a.2.2 z ∧ a.2.2 z < i ∧ ∃ w k, w < 64 ∧ bs S w = true ∧ rk a.2.1 (k + 1) w z))) e f S he1 ⟨Nat.le_refl f, fun z hz => ⟨Or.inl, fun q => q.elim id (fun q => by omega)⟩⟩ ?_ ?_
  · intro k s hI
    show lp_X2_spread_6 _ _ _ (k + 1) s (nI e) _
    rw [lp_X2_spread_6]
    by_cases hee : e < 2 ^ 31
    · refine br_t (nI_lt he2 hee) (hp s (fun z hz => ?_))
      rw [hI.2 z hz]
      constructor
      · rintro (q | ⟨q1, q2, q3, q4⟩)
        · exact Or.inl q
        · exact Or.inr ⟨q1, q2, he3 _ q3 q2, q4⟩
      · rintro (q | ⟨q1, q2, q3, q4⟩)
        · exact Or.inl q
        · exact Or.inr ⟨q1, q2, by omega, q4⟩
    · have := he3 (e - 1) (by omega) (by omega)
      omega
  · intro k i s hi hI ih
    show lp_X2_spread_6 _ _ _ (k + 1) s (nI i) _
    rw [lp_X2_spread_6]
    have hil := he3 i hi hI.1
    obtain ⟨t, ht, et⟩ := rl_surj ok (k := i) (by omega)
    refine br_f (nI_nlt hil (by omega)) ⟨vp_in_nI (by omega) (by omega), fun x8 e8 => ?_⟩
    have e9 : x8 = nI t := by rw [e8, nI_cl (by omega), ← et]; exact h.2.2.2.2.2.2 t ht
    subst e9
    have hbt : ∀ j, j < 64 → bs (before t) j = a.2.1 j t := fun j hj => h.2.2.2.2.1 j t hj (by omega)
    have hfound : ∀ w kk, w < 64 → bs S w = true → rk a.2.1 (kk + 1) w t → ∃ v, v < 64 ∧ a.2.1 v t = true ∧ bs s v = true := by
      intro w kk hw hwS hr
      obtain ⟨v, h1, h2⟩ := rk_last hr
      have hv := ok.2.1 v t h2
      refine ⟨v, by omega, h2, (hI.2 v (by omega)).mpr ?_⟩
      cases kk with
      | zero =>
        have h1 : w = v := h1
        subst h1
        exact Or.inl hwS
      | succ kk =>
        have := rk_pl ok h1
        have := (hS w hw hwS).2
        exact Or.inr ⟨hv.1, by omega, by omega, w, kk, hw, hwS, h1⟩
    refine ⟨vp_in_nI (by omega) (by omega), ?_⟩
    rw [nI_cl (by omega)]
    have hst : bs s t = true ↔ bs S t = true := by
      rw [hI.2 t (by omega)]
      exact ⟨fun q => q.elim id (fun q => by omega), Or.inl⟩
    refine br_c (fun c1 => ?_) (fun c1 => ?_)
    · intro y ey
      rw [ey, nI_1]
      rw [bs_meet] at c1
      refine ih s ⟨by omega, fun z hz => ?_⟩
      by_cases hzt : z = t
      · subst hzt
        rw [hst]
        refine ⟨Or.inl, fun q => q.elim id ?_⟩
        rintro ⟨-, -, -, w, kk, hw, hwS, hr⟩
        obtain ⟨v, hv, q1, q2⟩ := hfound w kk hw hwS hr
        have := c1 v hv (by rw [hbt v hv]; exact q1)
        rw [this] at q2
        cases q2
      · rw [hI.2 z hz]
        constructor
        · rintro (q | ⟨q1, q2, q3, q4⟩)
          · exact Or.inl q
          · exact Or.inr ⟨q1, q2, by omega, q4⟩
        · rintro (q | ⟨q1, q2, q3, q4⟩)
          · exact Or.inl q
          · have : a.2.2 z ≠ i := fun q => hzt (ok.2.2.2.1 z t q1 ht (by omega))
            exact Or.inr ⟨q1, q2, by omega, q4⟩
    · refine sp_bit ?_
      intro s2 es2 y ey
      rw [ey, nI_1]
      have hex : ∃ w kk, w < 64 ∧ bs S w = true ∧ rk a.2.1 (kk + 1) w t := by
        rw [bs_meet] at c1
        have hc2 : ∃ j, j < 64 ∧ bs (before t) j = true ∧ bs s j = true := by
          refine Classical.byContradiction (fun q => c1 (fun j hj hb => ?_))
          cases hq : bs s j with
          | false => rfl
          | true => exact absurd ⟨j, hj, hb, hq⟩ q
        obtain ⟨j, hj, hb, hs2⟩ := hc2
        rw [hbt j hj] at hb
        rcases (hI.2 j hj).mp hs2 with q | ⟨-, -, -, w, kk, hw, hwS, hr⟩
        · exact ⟨j, 0, hj, q, t, hb, rfl⟩
        · exact ⟨w, kk + 1, hw, hwS, rk_snoc hr hb⟩
      obtain ⟨w, kk, hw, hwS, hr⟩ := hex
      refine ih s2 ⟨by omega, fun z hz => ?_⟩
      rw [es2, bs_or, bs_one (by omega)]
      by_cases hzt : z = t
      · subst hzt
        have := rk_pl ok hr
        have := (hS w hw hwS).2
        simp only [decide_true, Bool.or_true, true_iff]
        exact Or.inr ⟨ht, by omega, by omega, w, kk, hw, hwS, hr⟩
      · rw [show decide (z = t) = false from decide_eq_false hzt, Bool.or_false, hI.2 z hz]
        constructor
        · rintro (q | ⟨q1, q2, q3, q4⟩)
          · exact Or.inl q
          · exact Or.inr ⟨q1, q2, by omega, q4⟩
        · rintro (q | ⟨q1, q2, q3, q4⟩)
          · exact Or.inl q
          · have : a.2.2 z ≠ i := fun q => hzt (ok.2.2.2.1 z t q1 ht (by omega))
            exact Or.inr ⟨q1, q2, by omega, q4⟩
theorem sp_reachedFrom {n x la : Nat} {a : An} {tasks ties : Int32} {weight : Nat → Int32} {after before : Nat → Int64} {placeOf taskAt : Nat → Int32} (hn : n ≤ 60) (ok : rl_ok n a) (h : rl_net n a tasks ties weight after before placeOf taskAt) (hx : x < n) (hla : la < n) {post : Int64 → Prop}
    (hp : ∀ r, (∀ z, z < 64 → (bs r z = true ↔ z = x ∨ (z < n ∧ a.2.2 z ≤ la ∧ ∃ k, rk a.2.1 (k + 1) x z))) → post r) : wp_X2_reachedFrom before placeOf taskAt (nI x) (nI la) post := by
  unfold wp_X2_reachedFrom
  refine sp_bit ⟨vp_in_nI (by omega) (by omega), ?_⟩
  have hpx := ok.2.2.1 x hx
  rw [nI_cl (by omega), h.2.2.2.2.2.1 x hx, nI_1]
  refine sp_spread hn ok h hla (by omega) (fun w hw hb => ?_) (fun r hr => hp r (fun z hz => ?_))
  · rw [bs_one (by omega)] at hb
    have := of_decide_eq_true hb
    subst this
    exact ⟨hx, by omega⟩
  · rw [hr z hz, bs_one (by omega)]
    constructor
    · rintro (q | ⟨q1, q2, q3, w, k, hw, hb, hk⟩)
      · exact Or.inl (of_decide_eq_true q)
      · rw [bs_one (by omega)] at hb
        have := of_decide_eq_true hb
        subst this
        exact Or.inr ⟨q1, q3, k, hk⟩
    · rintro (q | ⟨q1, q3, k, hk⟩)
      · exact Or.inl (decide_eq_true q)
      · have := rk_pl ok hk
        exact Or.inr ⟨q1, by omega, q3, x, k, by omega, by rw [bs_one (by omega)]; exact decide_eq_true rfl, hk⟩
theorem sp_leadsTo {n x y : Nat} {a : An} {tasks ties : Int32} {weight : Nat → Int32} {after before : Nat → Int64} {placeOf taskAt : Nat → Int32} (hn : n ≤ 60) (ok : rl_ok n a) (h : rl_net n a tasks ties weight after before placeOf taskAt) (hx : x < n) (hy : y < n) {post : Int32 → Prop} (h1 : Rch a.2.1 x y → post 1) (h0 : ¬ Rch a.2.1 x y → post 0) : wp_X2_leadsTo before placeOf taskAt (nI x) (nI y) post := by
  unfold wp_X2_leadsTo
  have hpy := ok.2.2.1 y hy
  refine ⟨vp_in_nI (by omega) (by omega), ?_⟩
  rw [nI_cl (by omega), h.2.2.2.2.2.1 y hy]
  refine sp_reachedFrom hn ok h hx hpy (fun r hr => sp_has (by omega) ?_)
  have e : bs r y = true ↔ Rch a.2.1 x y := by
    rw [hr y (by omega), Rch_iff]
    constructor
    · rintro (q | ⟨-, -, q⟩)
      · exact Or.inl q.symm
      · exact Or.inr q
    · rintro (q | q)
      · exact Or.inl q.symm
      · exact Or.inr ⟨hy, Nat.le_refl _, q⟩
  by_cases q : Rch a.2.1 x y
  · rw [if_pos (e.mpr q)]
    exact ⟨Or.inr rfl, h1 q⟩
  · rw [if_neg (fun z => q (e.mp z))]
    exact ⟨Or.inl rfl, h0 q⟩
theorem sp_spare {n x y : Nat} {a : An} {tasks ties : Int32} {weight : Nat → Int32} {after before : Nat → Int64} {placeOf taskAt : Nat → Int32} (hn : n ≤ 60) (ok : rl_ok n a) (h : rl_net n a tasks ties weight after before placeOf taskAt) (hx : x < n) (hy : y < n) {post : Int32 → Prop} (h1 : (∃ w, w ≠ y ∧ a.2.1 x w = true ∧ Rch a.2.1 w y) → post 1) (h0 : (¬ ∃ w, w ≠ y ∧ a.2.1 x w = true ∧ Rch a.2.1 w y) → post 0) : wp_X2_isSpareTie after before placeOf taskAt (nI x) (nI y) post := by
  unfold wp_X2_isSpareTie
  have hpx := ok.2.2.1 x hx
  have hpy := ok.2.2.1 y hy
  refine ⟨vp_in_nI (by omega) (by omega), sp_bit ?_⟩
  intro S eS
  rw [nI_cl (by omega)] at eS
  refine ⟨vp_in_nI (by omega) (by omega), vp_in_nI (by omega) (by omega), ?_⟩
  rw [nI_cl (n := x) (by omega), nI_cl (n := y) (by omega), h.2.2.2.2.2.1 x hx, h.2.2.2.2.2.1 y hy, nI_1]
  have bS : ∀ w, w < 64 → (bs S w = true ↔ a.2.1 x w = true ∧ w ≠ y) := by
    intro w hw
    rw [eS, bs_and, bs_not _ hw, bs_one (by omega), h.2.2.2.1 x w (by omega) hw]
    by_cases q : w = y
    · simp [q]
    · simp [q]
  refine sp_spread hn ok h hpy (by omega) (fun w hw hb => ?_) (fun r hr => sp_has (by omega) ?_)
  · have q := ok.2.1 x w ((bS w hw).mp hb).1
    exact ⟨q.2.1, by omega⟩
  · have e : bs r y = true ↔ ∃ w, w ≠ y ∧ a.2.1 x w = true ∧ Rch a.2.1 w y := by
      rw [hr y (by omega)]
      constructor
      · rintro (q | ⟨-, -, -, w, k, hw, hb, hk⟩)
        · exact absurd rfl ((bS y (by omega)).mp q).2
        · have q := (bS w hw).mp hb
          exact ⟨w, q.2, q.1, k + 1, hk⟩
      · rintro ⟨w, q1, q2, q3⟩
        have hw := ok.2.1 x w q2
        rcases Rch_iff.mp q3 with q | ⟨k, hk⟩
        · exact absurd q q1
        · have := rk_pl ok hk
          exact Or.inr ⟨hy, by omega, Nat.le_refl _, w, k, by omega, (bS w (by omega)).mpr ⟨q2, q1⟩, hk⟩
    by_cases q : ∃ w, w ≠ y ∧ a.2.1 x w = true ∧ Rch a.2.1 w y
    · rw [if_pos (e.mpr q)]
      exact ⟨Or.inr rfl, h1 q⟩
    · rw [if_neg (fun z => q (e.mp z))]
      exact ⟨Or.inl rfl, h0 q⟩
