def isL (n : Nat) (P : Nat → Prop) (r : Int32) : Prop := (∃ x, x < n ∧ P x ∧ (∀ y, y < x → ¬ P y) ∧ r = nI x) ∨ ((∀ x, x < n → ¬ P x) ∧ r = -1)
theorem isL_uni {n : Nat} {P : Nat → Prop} {r s : Int32} (h : isL n P r) (g : isL n P s) : r = s := by
  rcases h with ⟨x, h1, h2, h3, h4⟩ | ⟨h1, h2⟩ <;> rcases g with ⟨y, g1, g2, g3, g4⟩ | ⟨g1, g2⟩
  · have : x = y := by
      rcases Nat.lt_trichotomy x y with q | q | q
      · exact absurd h2 (g3 x q)
      · exact q
      · exact absurd g2 (h3 y q)
    rw [h4, g4, this]
  · exact absurd h2 (g1 x h1)
  · exact absurd g2 (h1 y g1)
  · rw [h2, g2]
/-- critical, as both sides ask it -/
def crP (n : Nat) (a : An) (x : Nat) : Prop := nI (Ea n a x) = nI (Al n a) - nI (Ta n a x)
def crF (n : Nat) (a : An) (x : Nat) : Prop := crP n a x ∧ nI (Ea n a x) = 0
def crN (n : Nat) (a : An) (x y : Nat) : Prop := a.2.1 x y = true ∧ crP n a y ∧ nI (Ea n a y) = nI (Ea n a x) + nI (a.1 x)
def rowR (n : Nat) (a : An) : Nat → Int32 → Prop
  | 0, r => isL n (crF n a) r
  | i + 1, r => ∃ s, rowR n a i s ∧ ((s = -1 ∧ r = -1) ∨ ∃ x, x < n ∧ s = nI x ∧ isL n (crN n a x) r)
theorem nI_ne1 {x : Nat} (hx : x ≤ 60) : nI x ≠ -1 := fun h => nI_pos (n := x) (by omega) (by rw [h]; decide)
theorem rowR_uni {n : Nat} {a : An} (hn : n ≤ 60) : ∀ {i : Nat} {r s : Int32}, rowR n a i r → rowR n a i s → r = s
  | 0, _, _, h, g => isL_uni h g
  | i + 1, r, s, h, g => by
    obtain ⟨u, h1, h2⟩ := h
    obtain ⟨v, g1, g2⟩ := g
    have e := rowR_uni hn h1 g1
    subst e
    rcases h2 with ⟨q1, q2⟩ | ⟨x, q1, q2, q3⟩ <;> rcases g2 with ⟨p1, p2⟩ | ⟨y, p1, p2, p3⟩
    · rw [q2, p2]
    · rw [q1] at p2; exact absurd p2.symm (nI_ne1 (by omega))
    · rw [p1] at q2; exact absurd q2.symm (nI_ne1 (by omega))
    · have : x = y := nI_inj (by omega) (by omega) (q2.symm.trans p2)
      subst this
      exact isL_uni q3 p3
theorem rowR_pl {n : Nat} {a : An} (ok : rl_ok n a) (hn : n ≤ 60) : ∀ {i : Nat} {r : Int32}, rowR n a i r → r = -1 ∨ ∃ x, x < n ∧ r = nI x ∧ i ≤ a.2.2 x
  | 0, r, h => by
    rcases h with ⟨x, h1, -, -, h4⟩ | ⟨-, h2⟩
    · exact Or.inr ⟨x, h1, h4, Nat.zero_le _⟩
    · exact Or.inl h2
  | i + 1, r, h => by
    obtain ⟨s, h1, h2⟩ := h
    rcases h2 with ⟨-, q⟩ | ⟨x, q1, q2, q3⟩
    · exact Or.inl q
    · rcases q3 with ⟨y, p1, p2, -, p4⟩ | ⟨-, p2⟩
      · rcases rowR_pl ok hn h1 with z | ⟨w, z1, z2, z3⟩
        · rw [z] at q2; exact absurd q2.symm (nI_ne1 (by omega))
        · have : x = w := nI_inj (by omega) (by omega) (q2.symm.trans z2)
          subst this
          have := (ok.2.1 x y p2.1).2.2
          exact Or.inr ⟨y, p1, p4, by omega⟩
      · exact Or.inl p2
theorem rowR_none {n : Nat} {a : An} {i : Nat} (h : rowR n a i (-1)) : ∀ j, rowR n a (i + j) (-1)
  | 0 => h
  | j + 1 => ⟨-1, rowR_none h j, Or.inl ⟨rfl, rfl⟩⟩
theorem sp_crit {n x : Nat} {a : An} (hn : n ≤ 60) {e t : Nat → Int32} (he : ∀ x, x < n → e x = nI (Ea n a x)) (ht : ∀ x, x < n → t x = nI (Ta n a x)) (hx : x < n) {post : Int32 → Prop} (h1 : crP n a x → post 1) (h0 : ¬ crP n a x → post 0) : wp_X6_isCritical (nI (Al n a)) e t (nI x) post := by
  have hin : vp_in (nI x) 60 := vp_in_nI (by omega) (by omega)
  unfold wp_X6_isCritical wp_X6_lateOf
  refine ⟨hin, hin, ?_⟩
  rw [nI_cl (by omega), he x hx, ht x hx]
  exact br_c h1 h0
theorem sp_crit8 {n x : Nat} {a : An} (hn : n ≤ 60) {e t : Nat → Int32} (he : ∀ x, x < n → e x = nI (Ea n a x)) (ht : ∀ x, x < n → t x = nI (Ta n a x)) (hx : x < n) {post : Int32 → Prop} (h1 : crP n a x → post 1) (h0 : ¬ crP n a x → post 0) : wp_X8_isCritical (nI (Al n a)) e t (nI x) post := by
  have hin : vp_in (nI x) 60 := vp_in_nI (by omega) (by omega)
  unfold wp_X8_isCritical
  refine ⟨hin, hin, ?_⟩
  rw [nI_cl (by omega), he x hx, ht x hx]
  exact br_c h1 h0
theorem sp_first {n : Nat} {a : An} {tasks : Int32} (hn : n ≤ 60) (hs : tasks = nI n) {e t : Nat → Int32} (he : ∀ x, x < n → e x = nI (Ea n a x)) (ht : ∀ x, x < n → t x = nI (Ta n a x)) {post : Int32 → Prop} (h : ∀ r, isL n (crF n a) r → post r) : wp_X6_firstCritical (nI (Al n a)) e t tasks post := by
  subst hs
  unfold wp_X6_firstCritical
  refine pk_loop (σ := Unit) (fun k i _ => lp_X6_firstCritical_2 (nI (Al n a)) e t (nI n) post k (nI i) (post (-1))) (fun i _ => ∀ x, x < i → ¬ crF n a x) n 0 () (Nat.zero_le n) (fun x hx => absurd hx (by omega)) ?_ ?_
  · intro k _ hI
    show lp_X6_firstCritical_2 _ _ _ _ _ (k + 1) (nI n) _
    rw [lp_X6_firstCritical_2]
    exact br_t (nI_le (Nat.le_refl n) (by omega)) (h _ (Or.inr ⟨hI, rfl⟩))
  · intro k i _ hi hI ih
    show lp_X6_firstCritical_2 _ _ _ _ _ (k + 1) (nI i) _
    rw [lp_X6_firstCritical_2]
    have step : ¬ crF n a i → ∀ x, x < i + 1 → ¬ crF n a x := by
      intro q x hx
      by_cases z : x = i
      · subst z; exact q
      · exact hI x (by omega)
    refine br_f (nI_ge hi (by omega)) (sp_crit hn he ht hi (fun q => br_f (by decide) ⟨vp_in_nI (by omega) (by omega), ?_⟩) (fun q => br_t rfl ?_))
    · rw [nI_cl (by omega), he i hi]
      refine br_c (fun c => h _ (Or.inl ⟨i, hi, ⟨q, c⟩, hI, rfl⟩)) (fun c z ez => ?_)
      rw [ez, nI_1]
      exact ih () (step (fun p => c p.2))
    · intro z ez
      rw [ez, nI_1]
      exact ih () (step (fun p => q p.1))
theorem sp_next {n x : Nat} {a : An} {tasks ties : Int32} {weight : Nat → Int32} {after before : Nat → Int64} {placeOf taskAt : Nat → Int32} (hn : n ≤ 60) (hnet : rl_net n a tasks ties weight after before placeOf taskAt) {e t : Nat → Int32} (he : ∀ x, x < n → e x = nI (Ea n a x)) (ht : ∀ x, x < n → t x = nI (Ta n a x)) (hx : x < n) {post : Int32 → Prop} (h : ∀ r, isL n (crN n a x) r → post r) : wp_X6_nextCritical (nI (Al n a)) e t tasks weight after (nI x) post := by
  have hs := hnet.1
  subst hs
  have hin : vp_in (nI x) 60 := vp_in_nI (by omega) (by omega)
  unfold wp_X6_nextCritical
  refine ⟨hin, hin, fun q eq => ?_⟩
  rw [nI_cl (by omega), he x hx, hnet.2.2.1 x hx] at eq
  subst eq
  refine pk_loop (σ := Unit) (fun k i _ => lp_X6_nextCritical_17 (nI (Al n a)) e t (nI n) after (nI x) (nI (Ea n a x) + nI (a.1 x)) post k (nI i) (post (-1))) (fun i _ => ∀ y, y < i → ¬ crN n a x y) n 0 () (Nat.zero_le n) (fun x hx => absurd hx (by omega)) ?_ ?_
  · intro k _ hI
    show lp_X6_nextCritical_17 _ _ _ _ _ _ _ _ (k + 1) (nI n) _
    rw [lp_X6_nextCritical_17]
    exact br_t (nI_le (Nat.le_refl n) (by omega)) (h _ (Or.inr ⟨hI, rfl⟩))
  · intro k i _ hi hI ih
    show lp_X6_nextCritical_17 _ _ _ _ _ _ _ _ (k + 1) (nI i) _
    rw [lp_X6_nextCritical_17]
    have step : ¬ crN n a x i → ∀ y, y < i + 1 → ¬ crN n a x y := by
      intro q y hy
      by_cases z : y = i
      · subst z; exact q
      · exact hI y (by omega)
    refine br_f (nI_ge hi (by omega)) (sp_hasTie hnet (by omega) (by omega) (fun q1 => br_f (by decide) (sp_crit hn he ht hi (fun q => br_f (by decide) ⟨vp_in_nI (by omega) (by omega), ?_⟩) (fun q => br_t rfl ?_))) (fun q1 => br_t rfl ?_))
    · rw [nI_cl (by omega), he i hi]
      refine br_c (fun c => h _ (Or.inl ⟨i, hi, ⟨q1, q, c⟩, hI, rfl⟩)) (fun c z ez => ?_)
      rw [ez, nI_1]
      exact ih () (step (fun p => c p.2.2))
    · intro z ez
      rw [ez, nI_1]
      exact ih () (step (fun p => q p.2.1))
    · intro z ez
      rw [ez, nI_1]
      exact ih () (step (fun p => by have p1 := p.1; rw [q1] at p1; cases p1))
/-- the reference looks from above, and the last that it sees stays -/
def isD (n i : Nat) (P : Nat → Prop) (r : Int32) : Prop := (∃ x, i ≤ x ∧ x < n ∧ P x ∧ (∀ y, i ≤ y → y < x → ¬ P y) ∧ r = nI x) ∨ ((∀ x, i ≤ x → x < n → ¬ P x) ∧ r = -1)
theorem isD_0 {n : Nat} {P : Nat → Prop} {r : Int32} (h : isD n 0 P r) : isL n P r := by
  rcases h with ⟨x, -, h1, h2, h3, h4⟩ | ⟨h1, h2⟩
  · exact Or.inl ⟨x, h1, h2, fun y hy => h3 y (Nat.zero_le y) hy, h4⟩
  · exact Or.inr ⟨fun x hx => h1 x (Nat.zero_le x) hx, h2⟩
theorem isD_t {n i : Nat} {P : Nat → Prop} (hi : i < n) (h : P i) : isD n i P (nI i) := Or.inl ⟨i, Nat.le_refl i, hi, h, fun y h1 h2 => absurd h1 (by omega), rfl⟩
theorem isD_f {n i : Nat} {P : Nat → Prop} {r : Int32} (h : ¬ P i) (g : isD n (i + 1) P r) : isD n i P r := by
  rcases g with ⟨x, h0, h1, h2, h3, h4⟩ | ⟨h1, h2⟩
  · refine Or.inl ⟨x, by omega, h1, h2, fun y q1 q2 => ?_, h4⟩
    by_cases z : y = i
    · subst z; exact h
    · exact h3 y (by omega) q2
  · refine Or.inr ⟨fun x q1 q2 => ?_, h2⟩
    by_cases z : x = i
    · subst z; exact h
    · exact h1 x (by omega) q2
theorem sp_first8 {n : Nat} {a : An} {k1 : Int32} (hn : n ≤ 60) (hk : ¬ k1 < 0) {e t : Nat → Int32} (he : ∀ x, x < n → e x = nI (Ea n a x)) (ht : ∀ x, x < n → t x = nI (Ta n a x)) {kx : Int32 → Prop} (h : ∀ r, isL n (crF n a) r → kx r) : ∃ k, lp_X8_critical_18 (nI (Al n a)) e t k1 k (-1) (nI n - 1) kx := by
  refine ⟨n + 1, pk_loopD (σ := Int32) (fun k i s => lp_X8_critical_18 (nI (Al n a)) e t k1 k s (nI i - 1) kx) (fun i s => i ≤ n ∧ isD n i (crF n a) s) ?_ ?_ n (-1) ⟨Nat.le_refl n, Or.inr ⟨fun x q1 q2 => absurd q1 (by omega), rfl⟩⟩⟩
  · intro k s hI
    show lp_X8_critical_18 _ _ _ _ (k + 1) s (nI 0 - 1) _
    rw [lp_X8_critical_18]
    exact br_t (by decide) (h s (isD_0 hI.2))
  · intro k i s hI ih
    show lp_X8_critical_18 _ _ _ _ (k + 1) s (nI (i + 1) - 1) _
    rw [lp_X8_critical_18, nI_pred]
    have hi : i < n := by have := hI.1; omega
    refine br_f (nI_pos (by omega)) (br_f hk (sp_crit8 hn he ht hi (fun q => br_f (by decide) ⟨vp_in_nI (by omega) (by omega), ?_⟩) (fun q => br_t rfl ?_)))
    · rw [nI_cl (by omega), he i hi]
      refine br_c (fun c z ez => ?_) (fun c z ez => ?_)
      · rw [ez, i32_m1]
        exact ih (nI i) ⟨by omega, isD_t hi ⟨q, c⟩⟩
      · rw [ez, i32_m1]
        exact ih s ⟨by omega, isD_f (fun p => c p.2) hI.2⟩
    · intro z ez
      rw [ez, i32_m1]
      exact ih s ⟨by omega, isD_f (fun p => q p.1) hI.2⟩
theorem sp_next8 {n x : Nat} {a : An} {all : Nat → Int32} {k1 x3 : Int32} (hn : n ≤ 60) (hb : rl_blk n a all) (hx : x < n) {e t : Nat → Int32} (he : ∀ x, x < n → e x = nI (Ea n a x)) (ht : ∀ x, x < n → t x = nI (Ta n a x)) {kx : Int32 → Prop} (h : ∀ r, isL n (crN n a x) r → kx r) : ∃ k, lp_X8_critical_77 (nI (Al n a)) all e t k1 (nI x) x3 k (-1) (nI n - 1) kx := by
  refine ⟨n + 1, pk_loopD (σ := Int32) (fun k i s => lp_X8_critical_77 (nI (Al n a)) all e t k1 (nI x) x3 k s (nI i - 1) kx) (fun i s => i ≤ n ∧ isD n i (crN n a x) s) ?_ ?_ n (-1) ⟨Nat.le_refl n, Or.inr ⟨fun x q1 q2 => absurd q1 (by omega), rfl⟩⟩⟩
  · intro k s hI
    show lp_X8_critical_77 _ _ _ _ _ _ _ (k + 1) s (nI 0 - 1) _
    rw [lp_X8_critical_77]
    exact br_t (by decide) (h s (isD_0 hI.2))
  · intro k i s hI ih
    show lp_X8_critical_77 _ _ _ _ _ _ _ (k + 1) s (nI (i + 1) - 1) _
    rw [lp_X8_critical_77, nI_pred]
    have hi : i < n := by have := hI.1; omega
    refine br_f (nI_pos (by omega)) (sp_tied8 hb (by omega) (by omega) (fun q1 => br_f (by decide) (sp_crit8 hn he ht hi (fun q => br_f (by decide) ⟨vp_in_nI (by omega) (by omega), vp_in_nI (by omega) (by omega), sp_weight8 hb hn hx ?_⟩) (fun q => br_t rfl ?_))) (fun q1 => br_t rfl ?_))
    · rw [nI_cl (by omega), nI_cl (by omega), he i hi, he x hx]
      refine br_c (fun c z ez => ?_) (fun c z ez => ?_)
      · rw [ez, i32_m1]
        exact ih (nI i) ⟨by omega, isD_t hi ⟨q1, q, c⟩⟩
      · rw [ez, i32_m1]
        exact ih s ⟨by omega, isD_f (fun p => c p.2.2) hI.2⟩
    · intro z ez
      rw [ez, i32_m1]
      exact ih s ⟨by omega, isD_f (fun p => q p.2.1) hI.2⟩
    · intro z ez
      rw [ez, i32_m1]
      exact ih s ⟨by omega, isD_f (fun p => by have p1 := p.1; rw [q1] at p1; cases p1) hI.2⟩
theorem sp_row8 {n kk : Nat} {a : An} {size : Int32} {all : Nat → Int32} (hn : n ≤ 60) (hkk : kk < 2 ^ 31) (ok : rl_ok n a) (hs : size = nI n) (hb : rl_blk n a all) {e t : Nat → Int32} (he : ∀ x, x < n → e x = nI (Ea n a x)) (ht : ∀ x, x < n → t x = nI (Ta n a x)) {r0 : Int32} (h0 : rowR n a 0 r0) {kx : Int32 → Prop} (h : ∀ r, (kk < n → rowR n a kk r) → (n ≤ kk → r = -1) → kx r) : ∃ k, lp_X8_critical_57 size (nI (Al n a)) all e t (nI kk) k r0 0 kx := by
  subst hs
  obtain ⟨m, hm1, hm2, hm3⟩ : ∃ m, m ≤ kk ∧ m ≤ n ∧ (m = kk ∨ m = n) := by
    by_cases q : kk ≤ n
    · exact ⟨kk, Nat.le_refl _, q, Or.inl rfl⟩
    · exact ⟨n, by omega, Nat.le_refl _, Or.inr rfl⟩
  have stop : ∀ i, i ≤ m → rowR n a i (-1) → kx (-1) := by
    intro i hi hr
    refine h (-1) (fun q => ?_) (fun _ => rfl)
    have := rowR_none hr (kk - i)
    rw [show i + (kk - i) = kk by omega] at this
    exact this
  refine pk_loop (σ := Int32) (fun k i s => lp_X8_critical_57 (nI n) (nI (Al n a)) all e t (nI kk) k s (nI i) kx) (fun i s => rowR n a i s) m 0 r0 (Nat.zero_le m) h0 ?_ ?_
  · intro k s hI
    show lp_X8_critical_57 _ _ _ _ _ _ (k + 1) s (nI m) _
    rw [lp_X8_critical_57]
    by_cases q : m = kk
    · subst q
      refine br_t (nI_le (Nat.le_refl m) (by omega)) (h s (fun _ => hI) (fun q => ?_))
      rcases rowR_pl ok hn hI with z | ⟨x, z1, z2, z3⟩
      · exact z
      · have := ok.2.2.1 x z1; omega
    · have hmn : m = n := by omega
      rcases rowR_pl ok hn hI with z | ⟨x, z1, z2, z3⟩
      · refine br_f (nI_ge (by omega) (by omega)) (br_t (by rw [z]; decide) ?_)
        rw [z] at hI ⊢
        exact stop m (Nat.le_refl m) hI
      · have := ok.2.2.1 x z1; omega
  · intro k i s hi hI ih
    show lp_X8_critical_57 _ _ _ _ _ _ (k + 1) s (nI i) _
    rw [lp_X8_critical_57]
    refine br_f (nI_ge (by omega) (by omega)) ?_
    rcases rowR_pl ok hn hI with z | ⟨x, z1, z2, z3⟩
    · refine br_t (by rw [z]; decide) ?_
      rw [z] at hI ⊢
      exact stop i (by omega) hI
    · refine br_f (by rw [z2]; exact nI_pos (by omega)) (fun x5 ex5 => ?_)
      subst ex5
      rw [z2] at hI ⊢
      refine sp_next8 hn hb z1 he ht (fun r hr w ew => ?_)
      rw [ew, nI_1]
      exact ih r ⟨nI x, hI, Or.inr ⟨x, z1, rfl, hr⟩⟩
theorem sp_critical8 {n : Nat} {a : An} {thrown size total known : Int32} {all early tails : Nat → Int32} {a1 : Int32} (hn : n ≤ 60) (ok : rl_ok n a) (hs : size = nI n) (hb : rl_blk n a all) (hc : known = 0 ∨ known = 1 ∧ ∃ (f g : Nat → Nat) (t : Nat), isEarly n a f ∧ isTail n a g ∧ isAll n a f t ∧ (∀ x, x < n → early x = nI (f x) ∧ tails x = nI (g x)) ∧ total = nI t) {post : Int32 → Int32 → Int32 → Int32 → (Nat → Int32) → (Nat → Int32) → Prop}
    (h : ∀ r e t, (∀ x, x < n → e x = nI (Ea n a x)) → (∀ x, x < n → t x = nI (Ta n a x)) → (∀ kk, kk < n → a1 = nI kk → rowR n a kk r) → ((¬ ∃ kk, kk < n ∧ a1 = nI kk) → r = -1) → post r 0 (nI (Al n a)) 1 e t) : wp_X8_critical thrown size total known all early tails a1 post := by
  unfold wp_X8_critical
  refine sp_findTimes8 hn ok hs hb hc (fun e t he ht x3 ex3 => ?_)
  subst hs
  subst ex3
  by_cases hneg : a1 < 0
  · have hno : ∀ kk, kk < n → a1 = nI kk → False := fun kk hk q => nI_pos (n := kk) (by omega) (by rw [← q]; exact hneg)
    have fin : ∃ n57 : Nat, lp_X8_critical_57 (nI n) (nI (Al n a)) all e t a1 n57 (-1) 0 (fun x2_34 => post x2_34 0 (nI (Al n a)) 1 e t) := by
      refine ⟨1, ?_⟩
      rw [lp_X8_critical_57]
      have fin2 := h (-1) e t he ht (fun kk hk q => absurd (hno kk hk q) id) (fun _ => rfl)
      exact ⟨fun _ => fin2, fun _ => ⟨fun _ => fin2, fun q => absurd (by decide) q⟩⟩
    refine ⟨1, ?_⟩
    rw [lp_X8_critical_18]
    exact ⟨fun _ => fin, fun _ => br_t hneg fin⟩
  · obtain ⟨kk, hkk, ek⟩ := nI_of hneg
    subst ek
    refine sp_first8 hn hneg he ht (fun r0 hr0 => sp_row8 hn hkk ok rfl hb he ht hr0 (fun r h1 h2 => h r e t he ht (fun j hj q => ?_) (fun q => h2 ?_)))
    · have : kk = j := nI_inj hkk (by omega) q
      subst this
      exact h1 hj
    · rcases Nat.lt_or_ge kk n with z | z
      · exact absurd ⟨kk, z, rfl⟩ q
      · exact z
theorem sp_walk {n k : Nat} {a : An} {tasks ties : Int32} {weight : Nat → Int32} {after before : Nat → Int64} {placeOf taskAt : Nat → Int32} (hn : n ≤ 60) (ok : rl_ok n a) (hnet : rl_net n a tasks ties weight after before placeOf taskAt) (hk : k < n) {e t : Nat → Int32} (he : ∀ x, x < n → e x = nI (Ea n a x)) (ht : ∀ x, x < n → t x = nI (Ta n a x)) {r0 : Int32} (hr0 : rowR n a 0 r0) {kx : Int32 → Prop} (fin : ∀ r, rowR n a k r → kx r) : ∃ q, lp_X7_critical_38 tasks weight after (nI (Al n a)) e t (nI k) q r0 0 kx := by
  refine pk_loop (σ := Int32) (fun q i s => lp_X7_critical_38 tasks weight after (nI (Al n a)) e t (nI k) q s (nI i) kx) (fun i s => rowR n a i s) k 0 r0 (Nat.zero_le k) hr0 ?_ ?_
  · intro q s hI
    show lp_X7_critical_38 _ _ _ _ _ _ _ (q + 1) s (nI k) _
    rw [lp_X7_critical_38]
    exact br_t (nI_le (Nat.le_refl k) (by omega)) (fin s hI)
  · intro q i s hi hI ih
    show lp_X7_critical_38 _ _ _ _ _ _ _ (q + 1) s (nI i) _
    rw [lp_X7_critical_38]
    refine br_f (nI_ge hi (by omega)) ?_
    rcases rowR_pl ok hn hI with z | ⟨x, z1, z2, z3⟩
    · refine br_t z ?_
      rw [z] at hI ⊢
      have := rowR_none hI (k - i)
      rw [show i + (k - i) = k by omega] at this
      exact fin _ this
    · refine br_f (by rw [z2]; exact nI_ne1 (by omega)) ?_
      rw [z2] at hI ⊢
      refine sp_next hn hnet he ht z1 (fun r hr w ew => ?_)
      rw [ew, nI_1]
      exact ih r ⟨nI x, hI, Or.inr ⟨x, z1, rfl, hr⟩⟩
theorem sim_critical_ok : sim_critical Rel := by
  intro cs ms hR a1
  have hR0 := hR
  obtain ⟨n, a, hist, hn, ok, okh, hnet, ⟨hsz, hblk⟩, hpast, hcop, hbun, hwit, hplan, hcache, hmv⟩ := hR
  unfold wp_X7_critical
  refine sp_isTask hn hnet.1 (fun h => br_t rfl ?_) (fun k hk ek => br_f (by decide) ?_)
  · refine sp_critical8 hn ok hsz hblk hcache.2 (fun r e t he ht _ h2 => ⟨(h2 h).symm, ?_⟩)
    exact ⟨n, a, hist, hn, ok, okh, hnet, ⟨hsz, hblk⟩, hpast, hcop, hbun, hwit, hplan, ⟨hcache.1, ck_ok ok he ht⟩, hmv⟩
  · subst ek
    refine sp_measure hn ok hnet (fun e t he ht => sp_first hn hnet.1 he ht (fun r0 hr0 => ?_))
    refine sp_walk hn ok hnet hk he ht hr0 (fun r hr => ?_)
    refine sp_critical8 hn ok hsz hblk hcache.2 (fun r2 e2 t2 he2 ht2 h1 _ => ⟨rowR_uni hn hr (h1 k hk rfl), ?_⟩)
    exact ⟨n, a, hist, hn, ok, okh, hnet, ⟨hsz, hblk⟩, hpast, hcop, hbun, hwit, hplan, ⟨hcache.1, ck_ok ok he2 ht2⟩, hmv⟩
