/-! THE STATE IN PURE WORDS: weights, ties, places; what class and reference hold of it -/
abbrev An : Type := (Nat → Nat) × (Nat → Nat → Bool) × (Nat → Nat)
/-- ways of k ties -/
def rk (E : Nat → Nat → Bool) : Nat → Nat → Nat → Prop
  | 0, x, y => x = y
  | k + 1, x, y => ∃ z, E x z = true ∧ rk E k z y
def Rch (E : Nat → Nat → Bool) (x y : Nat) : Prop := ∃ k, rk E k x y
/-- how many ties -/
def cntR (f : Nat → Bool) : Nat → Nat
  | 0 => 0
  | k + 1 => cntR f k + (if f k = true then 1 else 0)
def cntE (E : Nat → Nat → Bool) : Nat → Nat
  | 0 => 0
  | k + 1 => cntE E k + cntR (E k) 60
/-- a sound net of n tasks -/
def rl_ok (n : Nat) (a : An) : Prop := (∀ x, x < n → a.1 x ≤ 1000) ∧ (∀ x y, a.2.1 x y = true → x < n ∧ y < n ∧ a.2.2 x < a.2.2 y) ∧ (∀ x, x < n → a.2.2 x < n) ∧ (∀ x y, x < n → y < n → a.2.2 x = a.2.2 y → x = y) ∧ cntE a.2.1 60 ≤ 400
/-- the class's net -/
def rl_net (n : Nat) (a : An) (tasks ties : Int32) (weight : Nat → Int32) (after before : Nat → Int64) (placeOf taskAt : Nat → Int32) : Prop :=
  tasks = nI n ∧ ties = nI (cntE a.2.1 60) ∧ (∀ x, x < n → weight x = nI (a.1 x)) ∧ (∀ x y, x < 60 → y < 64 → bs (after x) y = a.2.1 x y) ∧ (∀ x y, x < 64 → y < 60 → bs (before y) x = a.2.1 x y) ∧ (∀ x, x < n → placeOf x = nI (a.2.2 x)) ∧ ∀ x, x < n → taskAt (a.2.2 x) = nI x
/-- the reference's block of 3720 -/
def rl_blk (n : Nat) (a : An) (f : Nat → Int32) : Prop :=
  (∀ x y, x < 60 → y < 60 → f (60 * x + y) = if a.2.1 x y = true then 1 else 0) ∧ (∀ x, x < n → f (3600 + x) = nI (a.1 x)) ∧ ∀ x, x < n → f (3660 + x) = nI (a.2.2 x)
def rl_past (n : Nat) (hist : List An) (rem next : Int32) (K : Nat → Option pn_c) : Prop :=
  hist.length ≤ 64 ∧ rem = nI hist.length ∧ ∃ nx, nx < 64 ∧ next = nI nx ∧ ∀ i h, hist[i]? = some h → ∃ c : pn_c, K ((nx + 63 - i) % 64) = some c ∧ rl_net n h c.2.2.2.2.2.1 c.2.2.2.2.2.2 c.1 c.2.1 c.2.2.1 c.2.2.2.1 c.2.2.2.2.1
def rl_copies (n : Nat) (hist : List An) (firstCopy copyCount : Int32) (copies : Nat → Int32) : Prop :=
  copyCount = nI hist.length ∧ ∃ fc, fc < 64 ∧ firstCopy = nI fc ∧ ∀ i h, hist[i]? = some h → rl_blk n h (fun k => copies (3720 * ((fc + hist.length - 1 - i) % 64) + k))
def rl_bun (n : Nat) (size : Int32) (f t : Nat → Int32) (msize : Int32) (mf mt : Nat → Int32) : Prop :=
  ∃ nb, nb ≤ 100 ∧ size = nI nb ∧ msize = nI nb ∧ ∀ i, i < nb → f i = mf i ∧ t i = mt i ∧ ∃ u v, u < n ∧ v < n ∧ f i = nI u ∧ t i = nI v
def rl_wit (len : Int32) (row : Nat → Int32) (mlen : Int32) (mrow : Nat → Int32) : Prop := ∃ wl, wl ≤ 60 ∧ len = nI wl ∧ mlen = nI wl ∧ ∀ i, i < wl → row i = mrow i
def rl_plan (tasks : Int32) (begin_ worker : Nat → Int32) (mtasks : Int32) (mb mw : Nat → Int32) : Prop := ∃ pn, pn ≤ 60 ∧ tasks = nI pn ∧ mtasks = nI pn ∧ ∀ i, i < 60 → begin_ i = mb i ∧ worker i = mw i
/-- early, tail, all: by what they must keep (the ties lead to greater places, so there is one only) -/
def isEarly (n : Nat) (a : An) (f : Nat → Nat) : Prop := (∀ x y, a.2.1 x y = true → f x + a.1 x ≤ f y) ∧ ∀ y, y < n → f y = 0 ∨ ∃ x, a.2.1 x y = true ∧ f y = f x + a.1 x
def isTail (n : Nat) (a : An) (f : Nat → Nat) : Prop := (∀ x y, a.2.1 x y = true → f y + a.1 x ≤ f x) ∧ ∀ x, x < n → f x = a.1 x ∨ ∃ y, a.2.1 x y = true ∧ f x = f y + a.1 x
def isAll (n : Nat) (a : An) (f : Nat → Nat) (t : Nat) : Prop := (∀ x, x < n → f x + a.1 x ≤ t) ∧ (t = 0 ∨ ∃ x, x < n ∧ t = f x + a.1 x)
def rl_cache (n : Nat) (a : An) (rknown : Int32) (reached : Nat → Int64) (known : Int32) (early tails : Nat → Int32) (total : Int32) : Prop :=
  (rknown = 0 ∨ rknown = 1 ∧ ∀ x y, x < n → y < n → (bs (reached x) y = true ↔ Rch a.2.1 x y)) ∧ (known = 0 ∨ known = 1 ∧ ∃ (f g : Nat → Nat) (t : Nat), isEarly n a f ∧ isTail n a g ∧ isAll n a f t ∧ (∀ x, x < n → early x = nI (f x) ∧ tails x = nI (g x)) ∧ total = nI t)
def Rel (cs : lw_CS) (ms : lw_MS) : Prop := ∃ (n : Nat) (a : An) (hist : List An), n ≤ 60 ∧ rl_ok n a ∧ (∀ h ∈ hist, rl_ok n h) ∧ rl_net n a cs.2.1 cs.2.2.1 cs.2.2.2.1 cs.2.2.2.2.1 cs.2.2.2.2.2.1 cs.2.2.2.2.2.2.1 cs.2.2.2.2.2.2.2.1 ∧ (ms.2.1 = nI n ∧ rl_blk n a ms.2.2.2.2.2.2.2.2.2.2.2.1) ∧ rl_past n hist cs.2.2.2.2.2.2.2.2.2.2.2.2.2.1 cs.2.2.2.2.2.2.2.2.2.2.2.2.2.2.1 cs.2.2.2.2.2.2.2.2.2.2.2.2.2.2.2.2.2.2.2.2.2.2.2.2.2.2.2.2 ∧ rl_copies n hist ms.2.2.1 ms.2.2.2.1 ms.2.2.2.2.2.2.2.2.2.2.2.2.1 ∧ rl_bun n cs.2.2.2.2.2.2.2.2.2.2.1 cs.2.2.2.2.2.2.2.2.2.2.2.1 cs.2.2.2.2.2.2.2.2.2.2.2.2.1 ms.2.2.2.2.1 ms.2.2.2.2.2.2.2.2.2.2.2.2.2.1 ms.2.2.2.2.2.2.2.2.2.2.2.2.2.2.1 ∧ rl_wit cs.2.2.2.2.2.2.2.2.2.2.2.2.2.2.2.1 cs.2.2.2.2.2.2.2.2.2.2.2.2.2.2.2.2.1 ms.2.2.2.2.2.1 ms.2.2.2.2.2.2.2.2.2.2.2.2.2.2.2.1 ∧ rl_plan cs.2.2.2.2.2.2.2.2.2.2.2.2.2.2.2.2.2.2.2.2.2.1 cs.2.2.2.2.2.2.2.2.2.2.2.2.2.2.2.2.2.2.2.2.2.2.2.2.1 cs.2.2.2.2.2.2.2.2.2.2.2.2.2.2.2.2.2.2.2.2.2.2.2.2.2.1 ms.2.2.2.2.2.2.2.2.2.1 ms.2.2.2.2.2.2.2.2.2.2.2.2.2.2.2.2.2.2.2.1 ms.2.2.2.2.2.2.2.2.2.2.2.2.2.2.2.2.2.2.2.2.1 ∧ rl_cache n a ms.2.2.2.2.2.2.2.2.2.2.1 ms.2.2.2.2.2.2.2.2.2.2.2.2.2.2.2.2.2.2.2.2.2.2.2.2.2.1 ms.2.2.2.2.2.2.2.2.1 ms.2.2.2.2.2.2.2.2.2.2.2.2.2.2.2.2.2.1 ms.2.2.2.2.2.2.2.2.2.2.2.2.2.2.2.2.2.2.1 ms.2.2.2.2.2.2.2.1 ∧ cs.1 = ms.2.2.2.2.2.2.1
theorem sp_isTask {n : Nat} (hn : n ≤ 60) {t a : Int32} (ht : t = nI n) {post : Int32 → Prop} (h0 : (¬ ∃ x, x < n ∧ a = nI x) → post 0) (h1 : ∀ x, x < n → a = nI x → post 1) : wp_X2_isTask t a post := by
  subst ht
  unfold wp_X2_isTask
  rcases pk_ix a (n := n) (by omega) with h | h | ⟨x, hx, rfl⟩
  · refine br_t h (h0 ?_)
    rintro ⟨x, hx, rfl⟩
    exact nI_pos (by omega) h
  · by_cases h2 : a < 0
    · refine br_t h2 (h0 ?_)
      rintro ⟨x, hx, rfl⟩
      exact nI_pos (by omega) h2
    · refine br_f h2 (br_t h (h0 ?_))
      rintro ⟨x, hx, rfl⟩
      exact nI_ge hx (by omega) h
  · exact br_f (nI_pos (by omega)) (br_f (nI_ge hx (by omega)) (h1 x hx rfl))
theorem sp_areTasks {n : Nat} (hn : n ≤ 60) {t a b : Int32} (ht : t = nI n) {post : Int32 → Prop} (h0 : (¬ ∃ x y, x < n ∧ y < n ∧ a = nI x ∧ b = nI y) → post 0) (h1 : ∀ x y, x < n → y < n → a = nI x → b = nI y → post 1)   : wp_X2_areTasks t a b post := by
  unfold wp_X2_areTasks
  refine sp_isTask hn ht (fun h => br_t rfl (h0 ?_)) (fun x hx ex => br_f (by decide) ?_)
  · rintro ⟨x, y, hx, -, e, -⟩
    exact h ⟨x, hx, e⟩
  · refine sp_isTask hn ht (fun h => br_t rfl (h0 ?_)) (fun y hy ey => br_f (by decide) (h1 x y hx hy ex ey))
    rintro ⟨x', y, -, hy, -, e⟩
    exact h ⟨y, hy, e⟩
/-- the reference's 'has' is the same text -/
theorem sp_has8 {n : Nat} (hn : n ≤ 60) {t a : Int32} (ht : t = nI n) {post : Int32 → Prop} (h0 : (¬ ∃ x, x < n ∧ a = nI x) → post 0) (h1 : ∀ x, x < n → a = nI x → post 1) : wp_X8_has t a post := sp_isTask hn ht h0 h1
theorem nI_inj {a b : Nat} (ha : a < 2 ^ 31) (hb : b < 2 ^ 31) (h : nI a = nI b) : a = b := (nI_eq ha hb).mp h
theorem nI_cl {n : Nat} (h : n ≤ 1000000) : (nI n).toNatClampNeg = n := nI_clamp (by omega)
theorem nI_3600 (x : Nat) : (3600 : Int32) + nI x = nI (3600 + x) := by rw [show (3600 : Int32) = nI 3600 from rfl, nI_add]
theorem nI_3660 (x : Nat) : (3660 : Int32) + nI x = nI (3660 + x) := by rw [show (3660 : Int32) = nI 3660 from rfl, nI_add]
theorem nI_60 (x y : Nat) : (60 : Int32) * nI x + nI y = nI (60 * x + y) := by rw [show (60 : Int32) = nI 60 from rfl, pk_mul, nI_add]
theorem sp_place8 {n x : Nat} {a : An} {all : Nat → Int32} (hb : rl_blk n a all) (hn : n ≤ 60) (hx : x < n) {post : Int32 → Prop} (h : post (nI (a.2.2 x))) : wp_X8_placeOf all (nI x) post := by
  unfold wp_X8_placeOf
  rw [nI_3660]
  refine ⟨vp_in_nI (by omega) (by omega), ?_⟩
  rw [nI_cl (by omega), hb.2.2 x hx]
  exact h
theorem sp_weight8 {n x : Nat} {a : An} {all : Nat → Int32} (hb : rl_blk n a all) (hn : n ≤ 60) (hx : x < n) {post : Int32 → Prop} (h : post (nI (a.1 x))) : wp_X8_weightOf all (nI x) post := by
  unfold wp_X8_weightOf
  rw [nI_3600]
  refine ⟨vp_in_nI (by omega) (by omega), ?_⟩
  rw [nI_cl (by omega), hb.2.1 x hx]
  exact h
theorem sp_tied8 {n x y : Nat} {a : An} {all : Nat → Int32} (hb : rl_blk n a all) (hx : x < 60) (hy : y < 60) {post : Int32 → Prop} (h1 : a.2.1 x y = true → post 1) (h0 : a.2.1 x y = false → post 0) : wp_X8_isTied all (nI x) (nI y) post := by
  unfold wp_X8_isTied
  rw [nI_60]
  refine ⟨vp_in_nI (by omega) (by omega), ?_⟩
  rw [nI_cl (by omega), hb.1 x y hx hy]
  cases h : a.2.1 x y with
  | true => exact br_t (by simp) (h1 h)
  | false => exact br_f (by simp) (h0 h)
theorem sim_place_ok : sim_place Rel := by
  intro cs ms hR a1
  have hR0 := hR
  obtain ⟨n, a, hist, hn, ok, okh, hnet, ⟨hsz, hblk⟩, -⟩ := hR
  unfold wp_X7_place
  refine sp_isTask hn hnet.1 (fun h => br_t rfl ?_) (fun x hx ex => br_f (by decide) ?_)
  · unfold wp_X8_place
    exact sp_has8 hn hsz (fun _ => br_t rfl ⟨rfl, hR0⟩) (fun x hx ex => absurd ⟨x, hx, ex⟩ h)
  · subst ex
    refine ⟨vp_in_nI (by omega) (by omega), ?_⟩
    unfold wp_X8_place
    refine sp_has8 hn hsz (fun h => absurd ⟨x, hx, rfl⟩ h) (fun _ _ _ => br_f (by decide) (sp_place8 hblk hn hx ⟨?_, hR0⟩))
    rw [nI_cl (by omega), hnet.2.2.2.2.2.1 x hx]
theorem sim_witness_ok : sim_witness Rel := by
  intro cs ms hR a1
  have hR0 := hR
  obtain ⟨n, a, hist, hn, ok, okh, hnet, -, hpast, hcop, hbun, ⟨wl, hwl, e1, e2, hw⟩, -⟩ := hR
  unfold wp_X7_witness
  by_cases h2 : a1 < 0
  · refine br_t h2 ?_
    unfold wp_X8_witness
    exact br_t h2 ⟨rfl, hR0⟩
  rcases pk_ix a1 (n := wl) (by omega) with h | h | ⟨k, hk, rfl⟩
  · exact absurd h h2
  · refine br_f h2 (br_t (by rw [e1]; exact h) ?_)
    unfold wp_X8_witness
    exact br_f h2 (br_t (by rw [e2]; exact h) ⟨rfl, hR0⟩)
  · have h3 := nI_ge hk (by omega)
    refine br_f h2 (br_f (by rw [e1]; exact h3) ⟨vp_in_nI (by omega) (by omega), ?_⟩)
    unfold wp_X8_witness
    refine br_f h2 (br_f (by rw [e2]; exact h3) ⟨vp_in_nI (by omega) (by omega), ?_, hR0⟩)
    rw [nI_cl (by omega)]
    exact hw k hk
theorem sim_planned_ok : sim_planned Rel := by
  intro cs ms hR a1 a2
  have hR0 := hR
  obtain ⟨n, a, hist, hn, ok, okh, hnet, -, hpast, hcop, hbun, hwit, ⟨pn, hpn, e1, e2, hp⟩, -⟩ := hR
  unfold wp_X7_planned
  by_cases h2 : a1 < 0
  · refine br_t h2 ?_
    unfold wp_X8_planned
    exact br_t h2 ⟨rfl, hR0⟩
  rcases pk_ix a1 (n := pn) (by omega) with h | h | ⟨k, hk, rfl⟩
  · exact absurd h h2
  · have h3 : ¬ a1 < nI pn := k2_nlt h
    refine br_f h2 (br_f (by rw [e1]; exact h3) ?_)
    unfold wp_X8_planned
    exact br_f h2 (br_f (by rw [e2]; exact h3) ⟨rfl, hR0⟩)
  · have h4 : nI k < nI pn := nI_lt hk (by omega)
    have hin : vp_in (nI k) 60 := vp_in_nI (by omega) (by omega)
    have ek : (nI k).toNatClampNeg = k := nI_cl (by omega)
    refine br_f h2 (br_t (by rw [e1]; exact h4) (br_c (fun c1 => ⟨hin, ?_⟩) (fun c1 => br_c (fun c2 => ⟨hin, ?_⟩) (fun c2 => ?_))))
    · unfold wp_X8_planned
      refine br_f h2 (br_t (by rw [e2]; exact h4) (br_t c1 ⟨hin, ?_, hR0⟩))
      rw [ek]; exact (hp k (by omega)).1
    · unfold wp_X8_planned
      refine br_f h2 (br_t (by rw [e2]; exact h4) (br_f c1 (br_t c2 ⟨hin, ?_, hR0⟩)))
      rw [ek]; exact (hp k (by omega)).2
    · unfold wp_X8_planned
      exact br_f h2 (br_t (by rw [e2]; exact h4) (br_f c1 (br_f c2 ⟨rfl, hR0⟩)))
