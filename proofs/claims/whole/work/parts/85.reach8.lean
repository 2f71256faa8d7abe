theorem cntR_mono {f g : Nat → Bool} : ∀ k, (∀ j, j < k → f j = true → g j = true) → cntR f k ≤ cntR g k
  | 0, _ => Nat.le_refl 0
  | k + 1, h => by
    have ih := cntR_mono k (fun j hj => h j (by omega))
    have hk := h k (by omega)
    unfold cntR
    cases hf : f k with
    | false => simp; omega
    | true => rw [hk hf]; simp; omega
theorem cntR_lt {f g : Nat → Bool} : ∀ k, (∀ j, j < k → f j = true → g j = true) → (∃ j, j < k ∧ g j = true ∧ f j = false) → cntR f k < cntR g k
  | 0, _, h => by obtain ⟨j, hj, -⟩ := h; omega
  | k + 1, h, hx => by
    have hm := cntR_mono k (fun j hj => h j (by omega))
    obtain ⟨j, hj, h1, h2⟩ := hx
    unfold cntR
    by_cases e : j = k
    · subst e
      rw [h1, h2]; simp; omega
    · have ih := cntR_lt k (fun j hj => h j (by omega)) ⟨j, by omega, h1, h2⟩
      have hk := h k (by omega)
      cases hf : f k with
      | false => simp; omega
      | true => rw [hk hf]; simp; omega
theorem cntE_mono {f g : Nat → Nat → Bool} : ∀ k, (∀ x y, x < k → y < 60 → f x y = true → g x y = true) → cntE f k ≤ cntE g k
  | 0, _ => Nat.le_refl 0
  | k + 1, h => by
    have ih := cntE_mono k (fun x y hx => h x y (by omega))
    have hk := cntR_mono (f := f k) (g := g k) 60 (fun j hj => h k j (by omega) hj)
    unfold cntE
    omega
theorem cntE_lt {f g : Nat → Nat → Bool} : ∀ k, (∀ x y, x < k → y < 60 → f x y = true → g x y = true) → (∃ x y, x < k ∧ y < 60 ∧ g x y = true ∧ f x y = false) → cntE f k < cntE g k
  | 0, _, h => by obtain ⟨x, y, hx, -⟩ := h; omega
  | k + 1, h, hx => by
    obtain ⟨x, y, hx, hy, h1, h2⟩ := hx
    have hm := cntE_mono k (fun x y hx => h x y (by omega))
    have hr := cntR_mono (f := f k) (g := g k) 60 (fun j hj => h k j (by omega) hj)
    unfold cntE
    by_cases e : x = k
    · subst e
      have := cntR_lt (f := f x) (g := g x) 60 (fun j hj => h x j (by omega) hj) ⟨y, hy, h1, h2⟩
      omega
    · have ih := cntE_lt k (fun x y hx => h x y (by omega)) ⟨x, y, by omega, hy, h1, h2⟩
      omega
def miss (n : Nat) (r : Nat → Int64) : Nat := cntE (fun x y => !bs (r x) y) n
theorem miss_le {n : Nat} {r r' : Nat → Int64} (h : ∀ x y, x < n → y < 60 → bs (r x) y = true → bs (r' x) y = true) : miss n r' ≤ miss n r := by
  refine cntE_mono n (fun x y hx hy q => ?_)
  cases e : bs (r x) y with
  | false => rfl
  | true => rw [h x y hx hy e] at q; cases q
theorem miss_lt {n : Nat} {r r' : Nat → Int64} (h : ∀ x y, x < n → y < 60 → bs (r x) y = true → bs (r' x) y = true) (hx : ∃ x y, x < n ∧ y < 60 ∧ bs (r x) y = false ∧ bs (r' x) y = true) : miss n r' < miss n r := by
  refine cntE_lt n (fun x y hx hy q => ?_) ?_
  · cases e : bs (r x) y with
    | false => rfl
    | true => rw [h x y hx hy e] at q; cases q
  · obtain ⟨x, y, h1, h2, h3, h4⟩ := hx
    exact ⟨x, y, h1, h2, by rw [h3]; rfl, by rw [h4]; rfl⟩
/-- what the reference's rows of bits hold on the way -/
def fr_S (n : Nat) (E : Nat → Nat → Bool) (r : Nat → Int64) : Prop := (∀ x, x < n → bs (r x) x = true) ∧ ∀ x y, x < n → y < 64 → bs (r x) y = true → y < n ∧ Rch E x y
def fr_C (n : Nat) (E : Nat → Nat → Bool) (r : Nat → Int64) (x : Nat) : Prop := ∀ z y, E x z = true → y < 64 → bs (r z) y = true → bs (r x) y = true
theorem Rch_step {E : Nat → Nat → Bool} {x z y : Nat} (e : E x z = true) (h : Rch E z y) : Rch E x y := by
  obtain ⟨k, h⟩ := h
  exact ⟨k + 1, z, e, h⟩
theorem fr_53 {n x : Nat} {a : An} {all : Nat → Int32} {r : Nat → Int64} {x1 : Int32} {s0 : Int64} {kx : Int64 → Prop} (hn : n ≤ 60) (hb : rl_blk n a all) (hx : x < n) (hk : ∀ s, (∀ y, y < 64 → (bs s y = true ↔ bs s0 y = true ∨ ∃ b, b < n ∧ a.2.1 x b = true ∧ bs (r b) y = true)) → kx s) : ∃ k, lp_X8_findReached_53 (nI n) all r x1 (nI x) k s0 0 kx := by
  refine pk_loop (σ := Int64) (fun k i s => lp_X8_findReached_53 (nI n) all r x1 (nI x) k s (nI i) kx) (fun i s => ∀ y, y < 64 → (bs s y = true ↔ bs s0 y = true ∨ ∃ b, b < i ∧ a.2.1 x b = true ∧ bs (r b) y = true)) n 0 s0 (Nat.zero_le n) (fun y hy => ⟨Or.inl, fun q => q.elim id (fun ⟨b, hb, _⟩ => absurd hb (by omega))⟩) ?_ ?_
  · intro k s hI
    show lp_X8_findReached_53 _ _ _ _ _ (k + 1) s (nI n) _
    rw [lp_X8_findReached_53]
    exact br_t (nI_le (Nat.le_refl n) (by omega)) (hk s hI)
  · intro k i s hi hI ih
    show lp_X8_findReached_53 _ _ _ _ _ (k + 1) s (nI i) _
    rw [lp_X8_findReached_53]
    refine br_f (nI_ge hi (by omega)) (sp_tied8 hb (by omega) (by omega) (fun e => br_f (by decide) ⟨vp_in_nI (by omega) (by omega), fun s2 es2 => ?_⟩) (fun e => br_t rfl ?_))
    · intro y ey
      rw [ey, nI_1]
      refine ih s2 (fun y hy => ?_)
      rw [es2, bs_or, nI_cl (by omega), Bool.or_eq_true, hI y hy]
      constructor
      · rintro ((q | ⟨b, h1, h2, h3⟩) | q)
        · exact Or.inl q
        · exact Or.inr ⟨b, by omega, h2, h3⟩
        · exact Or.inr ⟨i, by omega, e, q⟩
      · rintro (q | ⟨b, h1, h2, h3⟩)
        · exact Or.inl (Or.inl q)
        · by_cases eb : b = i
          · subst eb; exact Or.inr h3
          · exact Or.inl (Or.inr ⟨b, by omega, h2, h3⟩)
    · intro y ey
      rw [ey, nI_1]
      refine ih s (fun y hy => ?_)
      rw [hI y hy]
      constructor
      · rintro (q | ⟨b, h1, h2, h3⟩)
        · exact Or.inl q
        · exact Or.inr ⟨b, by omega, h2, h3⟩
      · rintro (q | ⟨b, h1, h2, h3⟩)
        · exact Or.inl q
        · by_cases eb : b = i
          · subst eb; rw [e] at h2; cases h2
          · exact Or.inr ⟨b, by omega, h2, h3⟩
theorem fr_35 {n : Nat} {a : An} {all : Nat → Int32} {r0 : Nat → Int64} {kx : (Nat → Int64) → Int32 → Prop} (hn : n ≤ 60) (ok : rl_ok n a) (hb : rl_blk n a all) (hS : fr_S n a.2.1 r0) (hk0 : ∀ r, (∀ x, x < n → r x = r0 x) → (∀ x, x < n → fr_C n a.2.1 r0 x) → kx r 0) (hk1 : ∀ r, fr_S n a.2.1 r → miss n r < miss n r0 → kx r 1) : ∃ k, lp_X8_findReached_35 (nI n) all k r0 0 0 kx := by
  refine pk_loop (σ := (Nat → Int64) × Int32) (fun k i s => lp_X8_findReached_35 (nI n) all k s.1 s.2 (nI i) kx) (fun i s => (s.2 = 0 ∧ (∀ x, x < n → s.1 x = r0 x) ∧ ∀ x, x < i → fr_C n a.2.1 r0 x) ∨ (s.2 = 1 ∧ fr_S n a.2.1 s.1 ∧ miss n s.1 < miss n r0)) n 0 (r0, 0) (Nat.zero_le n) (Or.inl ⟨rfl, fun _ _ => rfl, fun x hx => absurd hx (by omega)⟩) ?_ ?_
  · rintro k ⟨r, m⟩ hI
    show lp_X8_findReached_35 _ _ (k + 1) r m (nI n) _
    rw [lp_X8_findReached_35]
    refine br_t (nI_le (Nat.le_refl n) (by omega)) ?_
    rcases hI with ⟨h1, h2, h3⟩ | ⟨h1, h2, h3⟩
    · have h1 : m = 0 := h1
      subst h1; exact hk0 r h2 h3
    · have h1 : m = 1 := h1
      subst h1; exact hk1 r h2 h3
  · rintro k i ⟨r, m⟩ hi hI ih
    replace hI : (m = 0 ∧ (∀ x, x < n → r x = r0 x) ∧ ∀ x, x < i → fr_C n a.2.1 r0 x) ∨ (m = 1 ∧ fr_S n a.2.1 r ∧ miss n r < miss n r0) := hI
    show lp_X8_findReached_35 _ _ (k + 1) r m (nI i) _
    rw [lp_X8_findReached_35]
    have hin : vp_in (nI i) 60 := vp_in_nI (by omega) (by omega)
    have ei : (nI i).toNatClampNeg = i := nI_cl (by omega)
    refine br_f (nI_ge hi (by omega)) ⟨hin, fun s0 es0 => fr_53 hn hb hi (fun s hs => ?_)⟩
    rw [ei] at es0
    subst es0
    have hSr : fr_S n a.2.1 r := by
      rcases hI with ⟨-, h2, -⟩ | ⟨-, h2, -⟩
      · exact ⟨fun x hx => by rw [h2 x hx]; exact hS.1 x hx, fun x y hx hy q => hS.2 x y hx hy (by rw [← h2 x hx]; exact q)⟩
      · exact h2
    have hsub : ∀ y, y < 64 → bs (r i) y = true → bs s y = true := fun y hy q => (hs y hy).mpr (Or.inl q)
    have hsnd : ∀ y, y < 64 → bs s y = true → y < n ∧ Rch a.2.1 i y := by
      intro y hy q
      rcases (hs y hy).mp q with q | ⟨b, h1, h2, h3⟩
      · exact hSr.2 i y hi hy q
      · have := hSr.2 b y h1 hy h3
        exact ⟨this.1, Rch_step h2 this.2⟩
    have hS2 : fr_S n a.2.1 (vp_updL r i s) := by
      refine ⟨fun x hx => ?_, fun x y hx hy q => ?_⟩
      · by_cases e : x = i
        · subst e; rw [pk_uLs]; exact hsub x (by omega) (hSr.1 x hx)
        · rw [pk_uLn e]; exact hSr.1 x hx
      · by_cases e : x = i
        · subst e; rw [pk_uLs] at q; exact hsnd y hy q
        · rw [pk_uLn e] at q; exact hSr.2 x y hx hy q
    have hmono : ∀ x y, x < n → y < 60 → bs (r x) y = true → bs (vp_updL r i s x) y = true := by
      intro x y hx hy q
      by_cases e : x = i
      · subst e; rw [pk_uLs]; exact hsub y (by omega) q
      · rw [pk_uLn e]; exact q
    have hle : miss n (vp_updL r i s) ≤ miss n r := miss_le hmono
    refine br_c (fun c1 => ⟨hin, br_c (fun c2 => ⟨hin, fun r2 er2 => ?_⟩) (fun c2 => ?_)⟩) (fun c1 => ?_)
    · intro y ey
      rw [ey, nI_1]
      rw [ei] at er2 c2
      rw [lg_cmp_eq] at c2
      have c1 : m = 0 := c1
      rcases hI with ⟨-, h2, h3⟩ | ⟨h1, -⟩
      · refine ih (r2, 0) (Or.inl ⟨rfl, fun x hx => ?_, fun x hx => ?_⟩)
        · show r2 x = r0 x
          rw [er2]
          by_cases e : x = i
          · subst e; rw [pk_uLs, c2]; exact h2 x hx
          · rw [pk_uLn e]; exact h2 x hx
        · by_cases e : x = i
          · subst e
            intro z y hz hy q
            have hzn := (ok.2.1 x z hz).2.1
            rw [← h2 x hi, ← c2]
            exact (hs y hy).mpr (Or.inr ⟨z, hzn, hz, by rw [h2 z hzn]; exact q⟩)
          · exact h3 x (by omega)
      · have h1 : m = 1 := h1
        rw [c1] at h1
        exact absurd h1 (by decide)
    · unfold jp_X8_findReached_107
      refine ⟨hin, fun r2 er2 y ey => ?_⟩
      rw [ey, nI_1]
      rw [ei] at er2 c2
      rw [lg_cmp_eq] at c2
      subst er2
      have hne : ∃ y, y < 64 ∧ bs (r i) y = false ∧ bs s y = true := by
        refine Classical.byContradiction (fun q => c2 (bs_ext (fun j hj => ?_)))
        cases e1 : bs s j with
        | false =>
          cases e2 : bs (r i) j with
          | false => rfl
          | true => rw [hsub j hj e2] at e1; cases e1
        | true =>
          cases e2 : bs (r i) j with
          | true => rfl
          | false => exact absurd ⟨j, hj, e2, e1⟩ q
      obtain ⟨z, hz, q1, q2⟩ := hne
      have hzn := (hsnd z hz q2).1
      have hlt : miss n (vp_updL r i s) < miss n r := miss_lt hmono ⟨i, z, hi, by omega, q1, by rw [pk_uLs]; exact q2⟩
      refine ih (vp_updL r i s, 1) (Or.inr ⟨rfl, hS2, ?_⟩)
      show miss n (vp_updL r i s) < miss n r0
      rcases hI with ⟨-, h2, -⟩ | ⟨-, -, h3⟩
      · have : miss n r ≤ miss n r0 := miss_le (fun x y hx hy q => by
          show bs (r x) y = true
          rw [h2 x hx]; exact q)
        omega
      · have h3 : miss n r < miss n r0 := h3
        omega
    · unfold jp_X8_findReached_107
      refine ⟨hin, fun r2 er2 y ey => ?_⟩
      rw [ey, nI_1]
      rw [ei] at er2
      subst er2
      rcases hI with ⟨h1, -⟩ | ⟨-, -, h3⟩
      · exact absurd h1 c1
      · refine ih (vp_updL r i s, 1) (Or.inr ⟨rfl, hS2, ?_⟩)
        show miss n (vp_updL r i s) < miss n r0
        have h3 : miss n r < miss n r0 := h3
        omega
def rc_ok (n : Nat) (E : Nat → Nat → Bool) (r : Nat → Int64) : Prop := ∀ x y, x < n → y < n → (bs (r x) y = true ↔ Rch E x y)
theorem fr_done {n : Nat} {a : An} (hn : n ≤ 60) (ok : rl_ok n a) {r : Nat → Int64} (hS : fr_S n a.2.1 r) (hC : ∀ x, x < n → fr_C n a.2.1 r x) : rc_ok n a.2.1 r := by
  have key : ∀ k x y, x < n → y < n → rk a.2.1 k x y → bs (r x) y = true := by
    intro k
    induction k with
    | zero =>
      intro x y hx hy h
      have h : x = y := h
      subst h
      exact hS.1 x hx
    | succ k ih =>
      intro x y hx hy h
      obtain ⟨z, h1, h2⟩ := h
      exact hC x hx z y h1 (by omega) (ih z y (ok.2.1 x z h1).2.1 hy h2)
  exact fun x y hx hy => ⟨fun q => (hS.2 x y hx (by omega) q).2, fun ⟨k, q⟩ => key k x y hx hy q⟩
theorem sp_findReached8 {n : Nat} {a : An} {size rk0 : Int32} {all : Nat → Int32} {r0 : Nat → Int64} (hn : n ≤ 60) (ok : rl_ok n a) (hs : size = nI n) (hb : rl_blk n a all) {post : Int32 → (Nat → Int64) → Prop} (hp : ∀ r, rc_ok n a.2.1 r → post 1 r) : wp_X8_findReached size rk0 all r0 post := by
  subst hs
  unfold wp_X8_findReached
  refine pk_loop (σ := Nat → Int64) (fun k i r => lp_X8_findReached_2 (nI n) k r (nI i) (fun v_reached_5 => (∃ n27 : Nat, lp_X8_findReached_27 (nI n) all n27 v_reached_5 1 (fun v_reached_29 => post 1 v_reached_29)))) (fun i r => ∀ x, x < i → ∀ y, bs (r x) y = decide (y = x)) n 0 r0 (Nat.zero_le n) (fun x hx => absurd hx (by omega)) ?_ ?_
  · intro k r hI
    show lp_X8_findReached_2 _ (k + 1) r (nI n) _
    rw [lp_X8_findReached_2]
    refine br_t (nI_le (Nat.le_refl n) (by omega)) ?_
    refine lp2 (fun k r m => lp_X8_findReached_27 (nI n) all k r m (fun v => post 1 v)) (fun r m => (m = 0 ∧ fr_S n a.2.1 r ∧ ∀ x, x < n → fr_C n a.2.1 r x) ∨ (m = 1 ∧ fr_S n a.2.1 r)) (fun r m => if m = 0 then 0 else miss n r + 1) ?_ r 1 (Or.inr ⟨rfl, fun x hx => by rw [hI x hx]; simp, fun x y hx hy q => by
      rw [hI x hx] at q
      have := of_decide_eq_true q
      subst this
      exact ⟨hx, 0, rfl⟩⟩)
    intro k r m hJ ih
    show lp_X8_findReached_27 _ _ (k + 1) r m _
    rw [lp_X8_findReached_27]
    refine br_c (fun c => ?_) (fun c => ?_)
    · rcases hJ with ⟨-, h1, h2⟩ | ⟨h1, -⟩
      · exact hp r (fr_done hn ok h1 h2)
      · rw [c] at h1; exact absurd h1 (by decide)
    · rcases hJ with ⟨h1, -⟩ | ⟨-, h1⟩
      · exact absurd h1 c
      · refine fr_35 hn ok hb h1 (fun r' he hC => ih r' 0 (Or.inl ⟨rfl, ?_, fun x hx => ?_⟩) ?_) (fun r' hS hl => ih r' 1 (Or.inr ⟨rfl, hS⟩) ?_)
        · exact ⟨fun x hx => by rw [he x hx]; exact h1.1 x hx, fun x y hx hy q => h1.2 x y hx hy (by rw [← he x hx]; exact q)⟩
        · intro z y hz hy q
          have hzn := (ok.2.1 x z hz).2.1
          rw [he x hx]
          exact hC x hx z y hz hy (by rw [← he z hzn]; exact q)
        · rw [if_pos rfl, if_neg c]; omega
        · rw [if_neg (by decide), if_neg c]; omega
  · intro k i r hi hI ih
    show lp_X8_findReached_2 _ (k + 1) r (nI i) _
    rw [lp_X8_findReached_2]
    refine br_f (nI_ge hi (by omega)) ⟨vp_in_nI (by omega) (by omega), fun r2 er2 y ey => ?_⟩
    rw [ey, nI_1]
    refine ih r2 (fun x hx y => ?_)
    rw [er2, nI_cl (by omega)]
    by_cases e : x = i
    · subst e; rw [pk_uLs, bs_one (by omega)]
    · rw [pk_uLn e]; exact hI x (by omega) y
/-- the reference's cache of what reaches what -/
def rc_st (n : Nat) (E : Nat → Nat → Bool) (k : Int32) (r : Nat → Int64) : Prop := k = 0 ∨ k = 1 ∧ rc_ok n E r
theorem sp_doesReach8 {n x y : Nat} {a : An} {size rk0 : Int32} {all : Nat → Int32} {r0 : Nat → Int64} (hn : n ≤ 60) (ok : rl_ok n a) (hs : size = nI n) (hb : rl_blk n a all) (hc : rc_st n a.2.1 rk0 r0) (hx : x < n) (hy : y < n) {post : Int32 → Int32 → (Nat → Int64) → Prop} (h1 : Rch a.2.1 x y → ∀ r, rc_ok n a.2.1 r → post 1 1 r) (h0 : ¬ Rch a.2.1 x y → ∀ r, rc_ok n a.2.1 r → post 0 1 r) : wp_X8_doesReach size rk0 all r0 (nI x) (nI y) post := by
  have key : ∀ r, rc_ok n a.2.1 r → jp_X8_doesReach_11 1 r (nI x) (nI y) post := by
    intro r hr
    unfold jp_X8_doesReach_11
    refine ⟨vp_in_nI (by omega) (by omega), ?_⟩
    rw [nI_cl (by omega)]
    refine br_c (fun c => h1 ((hr x y hx hy).mp ((bs_shr (by omega)).mp c)) r hr) (fun c => h0 (fun q => c ((bs_shr (by omega)).mpr ((hr x y hx hy).mpr q))) r hr)
  unfold wp_X8_doesReach
  rcases hc with rfl | ⟨rfl, hr⟩
  · exact br_t rfl (sp_findReached8 hn ok hs hb (fun r hr => key r hr))
  · exact br_f (by decide) (key r0 hr)
theorem sim_reaches_ok : sim_reaches Rel := by
  intro cs ms hR a1 a2
  have hR0 := hR
  obtain ⟨n, a, hist, hn, ok, okh, hnet, ⟨hsz, hblk⟩, hpast, hcop, hbun, hwit, hplan, hcache, hmv⟩ := hR
  unfold wp_X7_reaches
  refine sp_areTasks hn hnet.1 (fun h => br_t rfl ?_) (fun x y hx hy ex ey => br_f (by decide) ?_)
  · unfold wp_X8_reaches
    exact sp_has8 hn hsz (fun _ => br_t rfl ⟨rfl, hR0⟩) (fun x hx ex => br_f (by decide) (sp_has8 hn hsz (fun _ => br_t rfl ⟨rfl, hR0⟩) (fun y hy ey => absurd ⟨x, y, hx, hy, ex, ey⟩ h)))
  · subst ex ey
    refine sp_leadsTo hn ok hnet hx hy (fun q => br_f (by decide) ?_) (fun q => br_t rfl ?_)
    · unfold wp_X8_reaches
      refine sp_has8 hn hsz (fun h => absurd ⟨x, hx, rfl⟩ h) (fun _ _ _ => br_f (by decide) (sp_has8 hn hsz (fun h => absurd ⟨y, hy, rfl⟩ h) (fun _ _ _ => br_f (by decide) (sp_doesReach8 hn ok hsz hblk hcache.1 hx hy (fun _ r hr => br_f (by decide) ⟨rfl, ?_⟩) (fun q2 => absurd q q2)))))
      exact ⟨n, a, hist, hn, ok, okh, hnet, ⟨hsz, hblk⟩, hpast, hcop, hbun, hwit, hplan, ⟨Or.inr ⟨rfl, hr⟩, hcache.2⟩, hmv⟩
    · unfold wp_X8_reaches
      refine sp_has8 hn hsz (fun h => absurd ⟨x, hx, rfl⟩ h) (fun _ _ _ => br_f (by decide) (sp_has8 hn hsz (fun h => absurd ⟨y, hy, rfl⟩ h) (fun _ _ _ => br_f (by decide) (sp_doesReach8 hn ok hsz hblk hcache.1 hx hy (fun q2 => absurd q2 q) (fun _ r hr => br_t rfl ⟨rfl, ?_⟩)))))
      exact ⟨n, a, hist, hn, ok, okh, hnet, ⟨hsz, hblk⟩, hpast, hcop, hbun, hwit, hplan, ⟨Or.inr ⟨rfl, hr⟩, hcache.2⟩, hmv⟩
