theorem inj_surj : ∀ (n : Nat) (f : Nat → Nat), (∀ x, x < n → f x < n) → (∀ x y, x < n → y < n → f x = f y → x = y) → ∀ k, k < n → ∃ x, x < n ∧ f x = k
  | 0, _, _, _, k, hk => absurd hk (by omega)
  | n + 1, f, h1, h2, k, hk => by
    have ih := inj_surj n (fun x => if f x = n then f n else f x) (fun x hx => by
      try dsimp only
      by_cases e : f x = n
      · rw [if_pos e]
        have a := h1 n (by omega)
        have b : f n ≠ n := fun q => by have := h2 x n (by omega) (by omega) (by omega); omega
        omega
      · rw [if_neg e]; have := h1 x (by omega); omega) (fun x y hx hy e => by
      try dsimp only at e
      by_cases e1 : f x = n <;> by_cases e2 : f y = n
      · exact h2 x y (by omega) (by omega) (by omega)
      · rw [if_pos e1, if_neg e2] at e
        have := h2 n y (by omega) (by omega) e
        omega
      · rw [if_neg e1, if_pos e2] at e
        have := h2 x n (by omega) (by omega) e
        omega
      · rw [if_neg e1, if_neg e2] at e
        exact h2 x y (by omega) (by omega) e)
    by_cases hk1 : k = f n
    · exact ⟨n, by omega, hk1.symm⟩
    · by_cases hk2 : k < n
      · obtain ⟨x, hx, e⟩ := ih k hk2
        try dsimp only at e
        by_cases e1 : f x = n
        · rw [if_pos e1] at e; exact absurd e.symm hk1
        · rw [if_neg e1] at e; exact ⟨x, by omega, e⟩
      · have hkn : k = n := by omega
        have hm : f n < n := by have := h1 n (by omega); omega
        obtain ⟨x, hx, e⟩ := ih (f n) hm
        try dsimp only at e
        by_cases e1 : f x = n
        · exact ⟨x, by omega, by omega⟩
        · rw [if_neg e1] at e
          have := h2 x n (by omega) (by omega) e
          omega
theorem rl_surj {n : Nat} {a : An} (ok : rl_ok n a) {k : Nat} (hk : k < n) : ∃ x, x < n ∧ a.2.2 x = k := inj_surj n a.2.2 ok.2.2.1 ok.2.2.2.1 k hk
theorem sp_taskAt8 {n : Nat} {a : An} {size : Int32} {all : Nat → Int32} (hn : n ≤ 60) (ok : rl_ok n a) (hs : size = nI n) (hb : rl_blk n a all) {p : Int32} {post : Int32 → Prop} (h1 : ∀ x, x < n → nI (a.2.2 x) = p → post (nI x)) (h0 : (∀ x, x < n → nI (a.2.2 x) ≠ p) → post (-1)) : wp_X8_taskAt size all p post := by
  subst hs
  unfold wp_X8_taskAt
  refine pk_loop (σ := Int32) (fun k i f => lp_X8_taskAt_4 (nI n) all p k f (nI i) (fun x2 => post x2)) (fun i f => (∀ x, x < i → nI (a.2.2 x) = p → f = nI x) ∧ ((∀ x, x < i → nI (a.2.2 x) ≠ p) → f = -1)) n 0 (-1) (Nat.zero_le n) ⟨fun x hx => absurd hx (by omega), fun _ => rfl⟩ ?_ ?_
  · intro k f hI
    show lp_X8_taskAt_4 _ _ _ (k + 1) f (nI n) _
    rw [lp_X8_taskAt_4]
    refine br_t (nI_le (Nat.le_refl n) (by omega)) ?_
    by_cases hex : ∃ x, x < n ∧ nI (a.2.2 x) = p
    · obtain ⟨x, hx, e⟩ := hex
      rw [hI.1 x hx e]
      exact h1 x hx e
    · have hno : ∀ x, x < n → nI (a.2.2 x) ≠ p := fun x hx e => hex ⟨x, hx, e⟩
      rw [hI.2 hno]
      exact h0 hno
  · intro k i f hi hI ih
    show lp_X8_taskAt_4 _ _ _ (k + 1) f (nI i) _
    rw [lp_X8_taskAt_4]
    refine br_f (nI_ge hi (by omega)) (sp_place8 hb hn hi (br_c (fun c => ?_) (fun c => ?_)))
    · intro y ey
      rw [ey, nI_1]
      refine ih (nI i) ⟨fun x hx e => ?_, fun h => absurd c (h i (by omega))⟩
      by_cases hxi : x = i
      · rw [hxi]
      · have h3 := ok.2.2.1 x (by omega)
        have h4 := ok.2.2.1 i (by omega)
        have := ok.2.2.2.1 x i (by omega) (by omega) (nI_inj (by omega) (by omega) (e.trans c.symm))
        omega
    · intro y ey
      rw [ey, nI_1]
      refine ih f ⟨fun x hx e => ?_, fun h => hI.2 (fun x hx => h x (by omega))⟩
      by_cases hxi : x = i
      · subst hxi; exact absurd e c
      · exact hI.1 x (by omega) e
theorem sim_at_ok : sim_at Rel := by
  intro cs ms hR a1
  have hR0 := hR
  obtain ⟨n, a, hist, hn, ok, okh, hnet, ⟨hsz, hblk⟩, -⟩ := hR
  unfold wp_X7_at
  refine sp_isTask hn hnet.1 (fun h => br_t rfl ?_) (fun k hk ek => br_f (by decide) ?_)
  · unfold wp_X8_at
    refine br_c (fun c => sp_taskAt8 hn ok hsz hblk (fun x hx e => ?_) (fun _ => ⟨rfl, hR0⟩)) (fun c => ⟨rfl, hR0⟩)
    exact absurd ⟨a.2.2 x, ok.2.2.1 x hx, e.symm⟩ h
  · subst ek
    refine ⟨vp_in_nI (by omega) (by omega), ?_⟩
    obtain ⟨x, hx, ex⟩ := rl_surj ok hk
    unfold wp_X8_at
    refine br_t (nI_pos' (by omega)) (sp_taskAt8 hn ok hsz hblk (fun y hy e => ⟨?_, hR0⟩) (fun h => absurd (by rw [ex]) (h x hx)))
    have h4 := ok.2.2.1 y hy
    have e2 : a.2.2 y = k := nI_inj (by omega) (by omega) e
    rw [nI_cl (by omega), ← e2]
    exact hnet.2.2.2.2.2.2 y hy
theorem sp_hasTie {n x y : Nat} {a : An} {tasks ties : Int32} {weight : Nat → Int32} {after before : Nat → Int64} {placeOf taskAt : Nat → Int32} (h : rl_net n a tasks ties weight after before placeOf taskAt) (hx : x < 60) (hy : y < 60) {post : Int32 → Prop} (h1 : a.2.1 x y = true → post 1) (h0 : a.2.1 x y = false → post 0) : wp_X2_hasTie after (nI x) (nI y) post := by
  unfold wp_X2_hasTie
  refine ⟨vp_in_nI hx (by omega), ?_⟩
  rw [nI_cl (by omega)]
  refine sp_has (by omega) ?_
  rw [h.2.2.2.1 x y hx (by omega)]
  cases e : a.2.1 x y with
  | true => exact ⟨Or.inr rfl, h1 e⟩
  | false => exact ⟨Or.inl rfl, h0 e⟩
theorem sp_sound {n : Nat} {a : An} {tasks ties : Int32} {weight : Nat → Int32} {after before : Nat → Int64} {placeOf taskAt : Nat → Int32} (hn : n ≤ 60) (ok : rl_ok n a) (h : rl_net n a tasks ties weight after before placeOf taskAt) {post : Int32 → Prop} (h1 : post 1) : wp_X2_placesAreSound tasks placeOf taskAt post := by
  have ht := h.1
  subst ht
  unfold wp_X2_placesAreSound
  refine pk_loop (σ := Unit) (fun k i _ => lp_X2_placesAreSound_2 (nI n) placeOf taskAt post k (nI i) (post 1)) (fun _ _ => True) n 0 () (Nat.zero_le n) trivial ?_ ?_
  · intro k _ _
    show lp_X2_placesAreSound_2 _ _ _ _ (k + 1) (nI n) _
    rw [lp_X2_placesAreSound_2]
    exact br_t (nI_le (Nat.le_refl n) (by omega)) h1
  · intro k i _ hi _ ih
    show lp_X2_placesAreSound_2 _ _ _ _ (k + 1) (nI i) _
    rw [lp_X2_placesAreSound_2]
    have hin : vp_in (nI i) 60 := vp_in_nI (by omega) (by omega)
    have hp := ok.2.2.1 i hi
    rw [nI_cl (n := i) (by omega), h.2.2.2.2.2.1 i hi]
    refine br_f (nI_ge hi (by omega)) ⟨hin, sp_isTask hn rfl (fun q => absurd ⟨_, hp, rfl⟩ q) (fun _ _ _ => br_f (by decide) ⟨hin, vp_in_nI (by omega) (by omega), br_t ?_ ?_⟩)⟩
    · rw [nI_cl (by omega)]; exact h.2.2.2.2.2.2 i hi
    · intro y ey
      rw [ey, nI_1]
      exact ih () trivial
theorem sp_leadOn {n : Nat} {a : An} {tasks ties : Int32} {weight : Nat → Int32} {after before : Nat → Int64} {placeOf taskAt : Nat → Int32} (hn : n ≤ 60) (ok : rl_ok n a) (h : rl_net n a tasks ties weight after before placeOf taskAt) {post : Int32 → Prop} (h1 : post 1) : wp_X2_tiesLeadOn tasks after placeOf post := by
  have ht := h.1
  subst ht
  unfold wp_X2_tiesLeadOn
  refine pk_loop (σ := Unit) (fun k i _ => lp_X2_tiesLeadOn_2 (nI n) after placeOf post k (nI i) (post 1)) (fun _ _ => True) n 0 () (Nat.zero_le n) trivial ?_ ?_
  · intro k _ _
    show lp_X2_tiesLeadOn_2 _ _ _ _ (k + 1) (nI n) _
    rw [lp_X2_tiesLeadOn_2]
    exact br_t (nI_le (Nat.le_refl n) (by omega)) h1
  · intro k x _ hx _ ih
    show lp_X2_tiesLeadOn_2 _ _ _ _ (k + 1) (nI x) _
    rw [lp_X2_tiesLeadOn_2]
    refine br_f (nI_ge hx (by omega)) ?_
    refine pk_loop (σ := Unit) (fun k2 y _ => lp_X2_tiesLeadOn_12 (nI n) after placeOf (nI x) post k2 (nI y) (∀ x1_10 : Int32, x1_10 = nI x + 1 → lp_X2_tiesLeadOn_2 (nI n) after placeOf post k x1_10 (post 1))) (fun _ _ => True) n 0 () (Nat.zero_le n) trivial ?_ ?_
    · intro k2 _ _
      show lp_X2_tiesLeadOn_12 _ _ _ _ _ (k2 + 1) (nI n) _
      rw [lp_X2_tiesLeadOn_12]
      refine br_t (nI_le (Nat.le_refl n) (by omega)) (fun z ez => ?_)
      rw [ez, nI_1]
      exact ih () trivial
    · intro k2 y _ hy _ ih2
      show lp_X2_tiesLeadOn_12 _ _ _ _ _ (k2 + 1) (nI y) _
      rw [lp_X2_tiesLeadOn_12]
      refine br_f (nI_ge hy (by omega)) (sp_hasTie h (by omega) (by omega) (fun e => br_f (by decide) ⟨vp_in_nI (by omega) (by omega), vp_in_nI (by omega) (by omega), br_t ?_ ?_⟩) (fun e => br_t rfl ?_))
      · obtain ⟨-, -, hl⟩ := ok.2.1 x y e
        have hp := ok.2.2.1 y hy
        rw [nI_cl (by omega), nI_cl (by omega), h.2.2.2.2.2.1 x hx, h.2.2.2.2.2.1 y hy]
        exact nI_lt hl (by omega)
      · intro z ez
        rw [ez, nI_1]
        exact ih2 () trivial
      · intro z ez
        rw [ez, nI_1]
        exact ih2 () trivial
theorem sim_check_ok : sim_check Rel := by
  intro cs ms hR _
  have hR0 := hR
  obtain ⟨n, a, hist, hn, ok, okh, hnet, -⟩ := hR
  unfold wp_X7_check
  refine sp_sound hn ok hnet (br_f (by decide) (sp_leadOn hn ok hnet (br_f (by decide) ?_)))
  unfold wp_X8_check
  exact ⟨rfl, hR0⟩
