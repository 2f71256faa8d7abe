/-- the greatest of the values v z, z < k, for which c z holds; 0 without one -/
def mxE (c : Nat → Bool) (v : Nat → Nat) : Nat → Nat
  | 0 => 0
  | k + 1 => if c k = true then max (mxE c v k) (v k) else mxE c v k
theorem mxE_ge {c : Nat → Bool} {v : Nat → Nat} : ∀ {k z : Nat}, z < k → c z = true → v z ≤ mxE c v k
  | 0, z, h, _ => absurd h (by omega)
  | k + 1, z, h, hc => by
    unfold mxE
    by_cases e : z = k
    · subst e; rw [if_pos hc]; omega
    · have ih := mxE_ge (v := v) (k := k) (z := z) (by omega) hc
      by_cases q : c k = true
      · rw [if_pos q]; omega
      · rw [if_neg q]; exact ih
theorem mxE_le {c : Nat → Bool} {v : Nat → Nat} {b : Nat} : ∀ {k : Nat}, (∀ z, z < k → c z = true → v z ≤ b) → mxE c v k ≤ b
  | 0, _ => Nat.zero_le b
  | k + 1, h => by
    have ih := mxE_le (c := c) (v := v) (b := b) (k := k) (fun z hz => h z (by omega))
    unfold mxE
    by_cases q : c k = true
    · rw [if_pos q]; have := h k (by omega) q; omega
    · rw [if_neg q]; exact ih
theorem mxE_at {c : Nat → Bool} {v : Nat → Nat} : ∀ {k : Nat}, mxE c v k = 0 ∨ ∃ z, z < k ∧ c z = true ∧ mxE c v k = v z
  | 0 => Or.inl rfl
  | k + 1 => by
    have ih := mxE_at (c := c) (v := v) (k := k)
    unfold mxE
    by_cases q : c k = true
    · rw [if_pos q]
      by_cases h : mxE c v k ≤ v k
      · exact Or.inr ⟨k, by omega, q, by omega⟩
      · rcases ih with h1 | ⟨z, h1, h2, h3⟩
        · omega
        · exact Or.inr ⟨z, by omega, h2, by omega⟩
    · rw [if_neg q]
      rcases ih with h1 | ⟨z, h1, h2, h3⟩
      · exact Or.inl h1
      · exact Or.inr ⟨z, by omega, h2, h3⟩
theorem mxE_congr {c : Nat → Bool} {v w : Nat → Nat} : ∀ {k : Nat}, (∀ z, z < k → c z = true → v z = w z) → mxE c v k = mxE c w k
  | 0, _ => rfl
  | k + 1, h => by
    have ih := mxE_congr (c := c) (v := v) (w := w) (k := k) (fun z hz => h z (by omega))
    unfold mxE
    by_cases q : c k = true
    · rw [if_pos q, if_pos q, ih, h k (by omega) q]
    · rw [if_neg q, if_neg q, ih]
/-- early, by rounds -/
def ef (n : Nat) (a : An) : Nat → Nat → Nat
  | 0, _ => 0
  | k + 1, y => mxE (fun z => a.2.1 z y) (fun z => ef n a k z + a.1 z) n
theorem ef_st {n : Nat} {a : An} (ok : rl_ok n a) : ∀ (k j y : Nat), a.2.2 y < k → a.2.2 y < j → ef n a k y = ef n a j y
  | 0, _, _, h, _ => absurd h (by omega)
  | _ + 1, 0, _, _, h => absurd h (by omega)
  | k + 1, j + 1, y, h1, h2 => by
    show mxE _ _ n = mxE _ _ n
    refine mxE_congr (fun z hz hc => ?_)
    have := ok.2.1 z y hc
    rw [ef_st ok k j z (by omega) (by omega)]
def tf (n : Nat) (a : An) : Nat → Nat → Nat
  | 0, _ => 0
  | k + 1, x => mxE (fun z => a.2.1 x z) (fun z => tf n a k z) n + a.1 x
theorem tf_st {n : Nat} {a : An} (ok : rl_ok n a) : ∀ (k j x : Nat), n ≤ a.2.2 x + k → n ≤ a.2.2 x + j → x < n → tf n a k x = tf n a j x
  | 0, _, x, h, _, hx => absurd (ok.2.2.1 x hx) (by omega)
  | _ + 1, 0, x, _, h, hx => absurd (ok.2.2.1 x hx) (by omega)
  | k + 1, j + 1, x, h1, h2, hx => by
    show mxE _ _ n + _ = mxE _ _ n + _
    rw [mxE_congr (fun z hz hc => ?_)]
    have := ok.2.1 x z hc
    exact tf_st ok k j z (by omega) (by omega) hz
/-- THE early, tail, all of a net -/
def Ea (n : Nat) (a : An) (y : Nat) : Nat := ef n a n y
def Ta (n : Nat) (a : An) (x : Nat) : Nat := tf n a n x
def Al (n : Nat) (a : An) : Nat := mxE (fun _ => true) (fun x => Ea n a x + a.1 x) n
theorem Ea_eq {n : Nat} {a : An} (ok : rl_ok n a) {y : Nat} (hy : y < n) : Ea n a y = mxE (fun z => a.2.1 z y) (fun z => Ea n a z + a.1 z) n := by
  have := ok.2.2.1 y hy
  unfold Ea
  rw [ef_st ok n (n + 1) y this (by omega)]
  rfl
theorem Ta_eq {n : Nat} {a : An} (ok : rl_ok n a) {x : Nat} (hx : x < n) : Ta n a x = mxE (fun z => a.2.1 x z) (fun z => Ta n a z) n + a.1 x := by
  unfold Ta
  rw [tf_st ok n (n + 1) x (by omega) (by omega) hx]
  rfl
theorem Ea_le {n : Nat} {a : An} (ok : rl_ok n a) : ∀ (m y : Nat), y < n → a.2.2 y < m → Ea n a y ≤ 1000 * a.2.2 y
  | 0, _, _, h => absurd h (by omega)
  | m + 1, y, hy, h => by
    rw [Ea_eq ok hy]
    refine mxE_le (fun z hz hc => ?_)
    have h1 := ok.2.1 z y hc
    have h2 := Ea_le ok m z h1.1 (by omega)
    have h3 := ok.1 z h1.1
    omega
theorem Ta_le {n : Nat} {a : An} (ok : rl_ok n a) : ∀ (m x : Nat), x < n → n ≤ a.2.2 x + m → Ta n a x ≤ 1000 * m
  | 0, x, hx, h => absurd (ok.2.2.1 x hx) (by omega)
  | m + 1, x, hx, h => by
    rw [Ta_eq ok hx]
    have h3 := ok.1 x hx
    have : mxE (fun z => a.2.1 x z) (fun z => Ta n a z) n ≤ 1000 * m := mxE_le (fun z hz hc => by
      have h1 := ok.2.1 x z hc
      exact Ta_le ok m z h1.2.1 (by omega))
    omega
theorem Ea_b {n : Nat} {a : An} (ok : rl_ok n a) (hn : n ≤ 60) {y : Nat} (hy : y < n) : Ea n a y ≤ 60000 := by
  have := Ea_le ok (n + 1) y hy (by have := ok.2.2.1 y hy; omega)
  have := ok.2.2.1 y hy
  omega
theorem Ta_b {n : Nat} {a : An} (ok : rl_ok n a) (hn : n ≤ 60) {y : Nat} (hy : y < n) : Ta n a y ≤ 60000 := by
  have := Ta_le ok n y hy (by omega)
  omega
theorem isEarly_Ea {n : Nat} {a : An} (ok : rl_ok n a) : isEarly n a (Ea n a) := by
  refine ⟨fun x y h => ?_, fun y hy => ?_⟩
  · have hxy := ok.2.1 x y h
    rw [Ea_eq ok hxy.2.1]
    exact mxE_ge (c := fun z => a.2.1 z y) (v := fun z => Ea n a z + a.1 z) hxy.1 h
  · rw [Ea_eq ok hy]
    rcases mxE_at (c := fun z => a.2.1 z y) (v := fun z => Ea n a z + a.1 z) (k := n) with h | ⟨z, h1, h2, h3⟩
    · exact Or.inl h
    · exact Or.inr ⟨z, h2, h3⟩
theorem isTail_Ta {n : Nat} {a : An} (ok : rl_ok n a) : isTail n a (Ta n a) := by
  refine ⟨fun x y h => ?_, fun x hx => ?_⟩
  · have hxy := ok.2.1 x y h
    rw [Ta_eq ok hxy.1]
    have := mxE_ge (c := fun z => a.2.1 x z) (v := fun z => Ta n a z) hxy.2.1 h
    omega
  · rw [Ta_eq ok hx]
    rcases mxE_at (c := fun z => a.2.1 x z) (v := fun z => Ta n a z) (k := n) with h | ⟨z, h1, h2, h3⟩
    · exact Or.inl (by omega)
    · exact Or.inr ⟨z, h2, by omega⟩
theorem isAll_Al {n : Nat} {a : An} : isAll n a (Ea n a) (Al n a) := by
  refine ⟨fun x hx => mxE_ge (c := fun _ => true) (v := fun x => Ea n a x + a.1 x) hx rfl, ?_⟩
  rcases mxE_at (c := fun _ => true) (v := fun x => Ea n a x + a.1 x) (k := n) with h | ⟨z, h1, -, h3⟩
  · exact Or.inl h
  · exact Or.inr ⟨z, h1, h3⟩
theorem early_uni {n : Nat} {a : An} (ok : rl_ok n a) {f : Nat → Nat} (h : isEarly n a f) : ∀ (m y : Nat), y < n → a.2.2 y < m → f y = Ea n a y
  | 0, _, _, h => absurd h (by omega)
  | m + 1, y, hy, hm => by
    rw [Ea_eq ok hy]
    refine Nat.le_antisymm ?_ (mxE_le (fun z hz hc => ?_))
    · rcases h.2 y hy with q | ⟨x, q1, q2⟩
      · omega
      · have hx := ok.2.1 x y q1
        have := early_uni ok h m x hx.1 (by omega)
        have := mxE_ge (c := fun z => a.2.1 z y) (v := fun z => Ea n a z + a.1 z) hx.1 q1
        omega
    · have hx := ok.2.1 z y hc
      have := early_uni ok h m z hx.1 (by omega)
      have := h.1 z y hc
      omega
theorem tail_uni {n : Nat} {a : An} (ok : rl_ok n a) {f : Nat → Nat} (h : isTail n a f) : ∀ (m x : Nat), x < n → n ≤ a.2.2 x + m → f x = Ta n a x
  | 0, x, hx, hm => absurd (ok.2.2.1 x hx) (by omega)
  | m + 1, x, hx, hm => by
    rw [Ta_eq ok hx]
    refine Nat.le_antisymm ?_ ?_
    · rcases h.2 x hx with q | ⟨y, q1, q2⟩
      · omega
      · have hy := ok.2.1 x y q1
        have := tail_uni ok h m y hy.2.1 (by omega)
        have := mxE_ge (c := fun z => a.2.1 x z) (v := fun z => Ta n a z) hy.2.1 q1
        omega
    · rcases mxE_at (c := fun z => a.2.1 x z) (v := fun z => Ta n a z) (k := n) with q | ⟨z, q1, q2, q3⟩
      · rcases h.2 x hx with p | ⟨y, p1, p2⟩
        · omega
        · omega
      · have hy := ok.2.1 x z q2
        have := tail_uni ok h m z hy.2.1 (by omega)
        have := h.1 x z q2
        omega
theorem all_uni {n : Nat} {a : An} (ok : rl_ok n a) {f : Nat → Nat} {t : Nat} (hf : isEarly n a f) (h : isAll n a f t) : t = Al n a := by
  have e : ∀ x, x < n → f x = Ea n a x := fun x hx => early_uni ok hf (a.2.2 x + 1) x hx (by omega)
  refine Nat.le_antisymm ?_ (mxE_le (fun z hz _ => ?_))
  · rcases h.2 with q | ⟨x, hx, q⟩
    · omega
    · have := mxE_ge (c := fun _ => true) (v := fun x => Ea n a x + a.1 x) hx rfl
      have := e x hx
      unfold Al
      omega
  · have := h.1 z hz
    rw [e z hz] at this
    exact this
theorem Al_b {n : Nat} {a : An} (ok : rl_ok n a) (hn : n ≤ 60) : Al n a ≤ 61000 := mxE_le (fun z hz _ => by
  have := Ea_b ok hn hz
  have := ok.1 z hz
  omega)
theorem gmax {a b : Nat} (ha : a < 2 ^ 31) (hb : b < 2 ^ 31) : gb_max (nI a) (nI b) = nI (max a b) := by
  unfold gb_max
  by_cases h : a < b
  · rw [if_pos (nI_lt h hb)]; congr 1; omega
  · rw [if_neg (nI_nlt (by omega) ha)]; congr 1; omega
theorem sp_measureEarly {n : Nat} {a : An} {tasks ties : Int32} {weight : Nat → Int32} {after before : Nat → Int64} {placeOf taskAt : Nat → Int32} (hn : n ≤ 60) (ok : rl_ok n a) (h : rl_net n a tasks ties weight after before placeOf taskAt) {all0 : Int32} {e0 : Nat → Int32} {post : Int32 → (Nat → Int32) → Prop} (hp : ∀ e, (∀ x, x < n → e x = nI (Ea n a x)) → post (nI (Al n a)) e) : wp_X6_measureEarly all0 e0 tasks weight after taskAt post := by
  have ht := h.1
  subst ht
  unfold wp_X6_measureEarly
  refine pk_loop (σ := Int32 × (Nat → Int32)) (fun k i s => lp_X6_measureEarly_7 (nI n) weight after taskAt k s.1 s.2 (nI i) (fun x e => post x e)) (fun i s => (∀ x, x < n → a.2.2 x < i → s.2 x = nI (Ea n a x)) ∧ ∃ t, s.1 = nI t ∧ t ≤ 61000 ∧ (∀ x, x < n → a.2.2 x < i → Ea n a x + a.1 x ≤ t) ∧ (t = 0 ∨ ∃ x, x < n ∧ t = Ea n a x + a.1 x)) n 0 (0, e0) (Nat.zero_le n) ⟨fun x hx q => absurd q (by omega), 0, rfl, by omega, fun x hx q => absurd q (by omega), Or.inl rfl⟩ ?_ ?_
  · rintro k ⟨al, e⟩ hI
    obtain ⟨h1, t, h2, h3, h4, h5⟩ := hI
    have h2 : al = nI t := h2
    have h1 : ∀ x, x < n → a.2.2 x < n → e x = nI (Ea n a x) := h1
    show lp_X6_measureEarly_7 _ _ _ _ (k + 1) al e (nI n) _
    rw [lp_X6_measureEarly_7]
    refine br_t (nI_le (Nat.le_refl n) (by omega)) ?_
    have et : t = Al n a := all_uni ok (isEarly_Ea ok) ⟨fun x hx => h4 x hx (ok.2.2.1 x hx), h5⟩
    rw [h2, et]
    exact hp e (fun x hx => h1 x hx (ok.2.2.1 x hx))
  · rintro k i ⟨al, e⟩ hi hI ih
    obtain ⟨h1, t, h2, h3, h4, h5⟩ := hI
    have h2 : al = nI t := h2
    have h1 : ∀ x, x < n → a.2.2 x < i → e x = nI (Ea n a x) := h1
    show lp_X6_measureEarly_7 _ _ _ _ (k + 1) al e (nI i) _
    rw [lp_X6_measureEarly_7]
    obtain ⟨y, hy, ey⟩ := rl_surj ok hi
    refine br_f (nI_ge hi (by omega)) ⟨vp_in_nI (by omega) (by omega), fun x3 e3 => ?_⟩
    have e9 : x3 = nI y := by rw [e3, nI_cl (by omega), ← ey]; exact h.2.2.2.2.2.2 y hy
    subst e9
    have hin : vp_in (nI y) 60 := vp_in_nI (by omega) (by omega)
    have ecl : (nI y).toNatClampNeg = y := nI_cl (by omega)
    refine ⟨hin, fun e1 ee1 => ?_⟩
    rw [ecl] at ee1
    have hby := Ea_b ok hn hy
    refine pk_loop (σ := Nat → Int32) (fun k2 z s => lp_X6_measureEarly_32 (nI n) weight after (nI i) (nI y) k2 s (nI z) (fun v_early_16 => vp_in (nI y) 60 ∧ vp_in (nI y) 60 ∧ ∀ v_all_19 : Int32, v_all_19 = gb_max al ((v_early_16 (nI y).toNatClampNeg) + (weight (nI y).toNatClampNeg)) → ∀ x2_20 : Int32, x2_20 = nI i + 1 → lp_X6_measureEarly_7 (nI n) weight after taskAt k v_all_19 v_early_16 x2_20 (fun x e => post x e))) (fun z s => s y = nI (mxE (fun w => a.2.1 w y) (fun w => Ea n a w + a.1 w) z) ∧ ∀ x, x < n → a.2.2 x < i → s x = nI (Ea n a x)) n 0 e1 (Nat.zero_le n) ⟨by rw [ee1, pk_us]; rfl, fun x hx q => by rw [ee1, pk_un (fun z => by rw [z] at q; omega)]; exact h1 x hx q⟩ ?_ ?_
    · intro k2 s hJ
      show lp_X6_measureEarly_32 _ _ _ _ _ (k2 + 1) s (nI n) _
      rw [lp_X6_measureEarly_32]
      refine br_t (nI_le (Nat.le_refl n) (by omega)) ⟨hin, hin, fun al2 eal2 z ez => ?_⟩
      rw [ez, nI_1]
      rw [← Ea_eq ok hy] at hJ
      have hwy := ok.1 y hy
      rw [ecl, hJ.1, h.2.2.1 y hy, nI_add, h2, gmax (by omega) (by omega)] at eal2
      refine ih (al2, s) ⟨fun x hx q => ?_, max t (Ea n a y + a.1 y), eal2, by omega, fun x hx q => ?_, ?_⟩
      · show s x = _
        by_cases q2 : a.2.2 x = i
        · have : x = y := ok.2.2.2.1 x y hx hy (by omega)
          subst this; exact hJ.1
        · exact hJ.2 x hx (by omega)
      · by_cases q2 : a.2.2 x = i
        · have : x = y := ok.2.2.2.1 x y hx hy (by omega)
          subst this; omega
        · have := h4 x hx (by omega); omega
      · by_cases q : t ≤ Ea n a y + a.1 y
        · exact Or.inr ⟨y, hy, by omega⟩
        · rcases h5 with p | ⟨x, p1, p2⟩
          · omega
          · exact Or.inr ⟨x, p1, by omega⟩
    · intro k2 z s hz hJ ih2
      show lp_X6_measureEarly_32 _ _ _ _ _ (k2 + 1) s (nI z) _
      rw [lp_X6_measureEarly_32]
      have hinz : vp_in (nI z) 60 := vp_in_nI (by omega) (by omega)
      have eclz : (nI z).toNatClampNeg = z := nI_cl (by omega)
      refine br_f (nI_ge hz (by omega)) (sp_hasTie h (by omega) (by omega) (fun e => br_f (by decide) ⟨hin, hinz, hinz, hin, fun s2 es2 => ?_⟩) (fun e => br_t rfl ?_))
      · intro w ew
        rw [ew, nI_1]
        have hzy := ok.2.1 z y e
        have hbz := Ea_b ok hn hz
        have hwz := ok.1 z hz
        have hm : mxE (fun w => a.2.1 w y) (fun w => Ea n a w + a.1 w) z ≤ 61000 := mxE_le (fun w hw _ => by
          have := Ea_b ok hn (y := w) (by omega)
          have := ok.1 w (by omega)
          omega)
        rw [ecl, eclz, hJ.1, hJ.2 z hz (by omega), h.2.2.1 z hz, nI_add, gmax (by omega) (by omega)] at es2
        refine ih2 s2 ⟨?_, fun x hx q => ?_⟩
        · rw [es2, pk_us]
          show _ = nI (mxE _ _ (z + 1))
          conv => rhs; unfold mxE
          rw [if_pos e]
        · rw [es2, pk_un (fun p => by rw [p] at q; omega)]
          exact hJ.2 x hx q
      · intro w ew
        rw [ew, nI_1]
        refine ih2 s ⟨?_, hJ.2⟩
        rw [hJ.1]
        show _ = nI (mxE _ _ (z + 1))
        conv => rhs; unfold mxE
        rw [if_neg (by rw [e]; decide)]
theorem i32_m1 (x : Int32) : x + (-1) = x - 1 := by rw [Int32.sub_eq_add_neg]
theorem sp_measureTail {n : Nat} {a : An} {tasks ties : Int32} {weight : Nat → Int32} {after before : Nat → Int64} {placeOf taskAt : Nat → Int32} (hn : n ≤ 60) (ok : rl_ok n a) (h : rl_net n a tasks ties weight after before placeOf taskAt) {t0 : Nat → Int32} {post : (Nat → Int32) → Prop} (hp : ∀ t, (∀ x, x < n → t x = nI (Ta n a x)) → post t) : wp_X6_measureTail t0 tasks weight after taskAt post := by
  have ht := h.1
  subst ht
  unfold wp_X6_measureTail
  intro p0 ep0
  subst ep0
  refine ⟨n + 1, pk_loopD (σ := Nat → Int32) (fun k i s => lp_X6_measureTail_7 (nI n) weight after taskAt k s (nI i - 1) (fun t => post t)) (fun i s => i ≤ n ∧ ∀ x, x < n → i ≤ a.2.2 x → s x = nI (Ta n a x)) ?_ ?_ n t0 ⟨Nat.le_refl n, fun x hx q => absurd (ok.2.2.1 x hx) (by omega)⟩⟩
  · intro k s hI
    show lp_X6_measureTail_7 _ _ _ _ (k + 1) s (nI 0 - 1) _
    rw [lp_X6_measureTail_7]
    exact br_t (by decide) (hp s (fun x hx => hI.2 x hx (Nat.zero_le _)))
  · intro k i s hI ih
    show lp_X6_measureTail_7 _ _ _ _ (k + 1) s (nI (i + 1) - 1) _
    rw [lp_X6_measureTail_7, nI_pred]
    have hi : i < n := by have := hI.1; omega
    obtain ⟨y, hy, ey⟩ := rl_surj ok hi
    refine br_f (nI_pos (by omega)) ⟨vp_in_nI (by omega) (by omega), fun x3 e3 => ?_⟩
    have e9 : x3 = nI y := by rw [e3, nI_cl (by omega), ← ey]; exact h.2.2.2.2.2.2 y hy
    subst e9
    have hin : vp_in (nI y) 60 := vp_in_nI (by omega) (by omega)
    have ecl : (nI y).toNatClampNeg = y := nI_cl (by omega)
    refine pk_loop (σ := Int32) (fun k2 z b => lp_X6_measureTail_24 s (nI n) after (nI i) (nI y) k2 b (nI z) (fun x4_12 => vp_in (nI y) 60 ∧ vp_in (nI y) 60 ∧ ∀ v_tail_15 : Nat → Int32, v_tail_15 = upd s (nI y).toNatClampNeg (x4_12 + (weight (nI y).toNatClampNeg)) → ∀ x2_16 : Int32, x2_16 = nI i + (-1) → lp_X6_measureTail_7 (nI n) weight after taskAt k v_tail_15 x2_16 (fun t => post t))) (fun z b => b = nI (mxE (fun w => a.2.1 y w) (fun w => Ta n a w) z)) n 0 0 (Nat.zero_le n) rfl ?_ ?_
    · intro k2 b hJ
      show lp_X6_measureTail_24 _ _ _ _ _ (k2 + 1) b (nI n) _
      rw [lp_X6_measureTail_24]
      refine br_t (nI_le (Nat.le_refl n) (by omega)) ⟨hin, hin, fun s2 es2 z ez => ?_⟩
      rw [ez, i32_m1]
      rw [ecl, hJ, h.2.2.1 y hy, nI_add, ← Ta_eq ok hy] at es2
      refine ih s2 ⟨by omega, fun x hx q => ?_⟩
      rw [es2]
      by_cases q2 : x = y
      · subst q2; rw [pk_us]
      · rw [pk_un q2]
        have : a.2.2 x ≠ i := fun p => q2 (ok.2.2.2.1 x y hx hy (by omega))
        exact hI.2 x hx (by omega)
    · intro k2 z b hz hJ ih2
      show lp_X6_measureTail_24 _ _ _ _ _ (k2 + 1) b (nI z) _
      rw [lp_X6_measureTail_24]
      refine br_f (nI_ge hz (by omega)) (sp_hasTie h (by omega) (by omega) (fun e => br_f (by decide) ⟨vp_in_nI (by omega) (by omega), fun b2 eb2 => ?_⟩) (fun e => br_t rfl ?_))
      · intro w ew
        rw [ew, nI_1]
        have hyz := ok.2.1 y z e
        have hbz := Ta_b ok hn hz
        have hm : mxE (fun w => a.2.1 y w) (fun w => Ta n a w) z ≤ 60000 := mxE_le (fun w hw _ => Ta_b ok hn (by omega))
        rw [nI_cl (by omega), hJ, hI.2 z hz (by omega), gmax (by omega) (by omega)] at eb2
        refine ih2 b2 ?_
        rw [eb2]
        show _ = nI (mxE _ _ (z + 1))
        conv => rhs; unfold mxE
        rw [if_pos e]
      · intro w ew
        rw [ew, nI_1]
        refine ih2 b ?_
        rw [hJ]
        show _ = nI (mxE _ _ (z + 1))
        conv => rhs; unfold mxE
        rw [if_neg (by rw [e]; decide)]
theorem sp_measure {n : Nat} {a : An} {tasks ties : Int32} {weight : Nat → Int32} {after before : Nat → Int64} {placeOf taskAt : Nat → Int32} (hn : n ≤ 60) (ok : rl_ok n a) (h : rl_net n a tasks ties weight after before placeOf taskAt) {all0 : Int32} {e0 t0 : Nat → Int32} {post : Int32 → (Nat → Int32) → (Nat → Int32) → Prop} (hp : ∀ e t, (∀ x, x < n → e x = nI (Ea n a x)) → (∀ x, x < n → t x = nI (Ta n a x)) → post (nI (Al n a)) e t) : wp_X6_measure all0 e0 t0 tasks weight after taskAt post := by
  unfold wp_X6_measure
  exact sp_measureEarly hn ok h (fun e he => sp_measureTail hn ok h (fun t ht => hp e t he ht))
