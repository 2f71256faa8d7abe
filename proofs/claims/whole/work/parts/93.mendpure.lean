/-! MENDING, PURELY: the marked places go to the marked tasks, those before x first -/
noncomputable def cd (P : Prop) : Bool := @decide P (Classical.propDecidable P)
theorem cd_t {P : Prop} : cd P = true ↔ P := @decide_eq_true_iff P (Classical.propDecidable P)
theorem cd_f {P : Prop} : cd P = false ↔ ¬ P := @decide_eq_false_iff_not P (Classical.propDecidable P)
theorem cw_le {f : Nat → Bool} {i : Nat} : ∀ {j : Nat}, i ≤ j → cntR f i ≤ cntR f j
  | 0, h => by rw [show i = 0 by omega]; exact Nat.le_refl _
  | j + 1, h => by
    by_cases q : i = j + 1
    · rw [q]; exact Nat.le_refl _
    · have := @cw_le f i j (by omega)
      have : cntR f j ≤ cntR f (j + 1) := Nat.le_add_right _ _
      omega
theorem cw_lt {f : Nat → Bool} {i j : Nat} (h : i < j) (hf : f i = true) : cntR f i < cntR f j := by
  have := @cw_le f (i + 1) j (by omega)
  rw [cntR_t hf] at this
  omega
theorem cw_all (f : Nat → Bool) : ∀ k, cntR f k ≤ k
  | 0 => Nat.le_refl _
  | k + 1 => by
    have := cw_all f k
    cases h : f k with
    | true => rw [cntR_t h]; omega
    | false => rw [cntR_f h]; omega
theorem cw_none {f : Nat → Bool} {i : Nat} : ∀ {j : Nat}, i ≤ j → (∀ q, i ≤ q → q < j → f q = false) → cntR f j = cntR f i
  | 0, h, _ => by rw [show i = 0 by omega]
  | j + 1, h, g => by
    by_cases q : i = j + 1
    · rw [q]
    · rw [cntR_f (g j (by omega) (by omega)), cw_none (by omega) (fun r h1 h2 => g r h1 (by omega))]
def isNth (n : Nat) (M : Nat → Bool) (m p : Nat) : Prop := p ≤ n ∧ cntR M p = m ∧ (p = n ∨ M p = true)
theorem isNth_lt {n m m' p p' : Nat} {M : Nat → Bool} (h : isNth n M m p) (g : isNth n M m' p') (q : m < m') : p < p' := by
  rcases Nat.lt_or_ge p p' with r | r
  · exact r
  · have := @cw_le M p' p r
    have := h.2.1
    have := g.2.1
    omega
theorem isNth_uni {n m p p' : Nat} {M : Nat → Bool} (h : isNth n M m p) (g : isNth n M m p') : p = p' := by
  have e1 := h.2.1
  have e2 := g.2.1
  rcases Nat.lt_trichotomy p p' with r | r | r
  · have := g.1
    have := cw_lt r (h.2.2.resolve_left (by omega))
    omega
  · exact r
  · have := h.1
    have := cw_lt r (g.2.2.resolve_left (by omega))
    omega
theorem isNth_le {n m m' p p' : Nat} {M : Nat → Bool} (h : isNth n M m p) (g : isNth n M m' p') (q : m ≤ m') : p ≤ p' := by
  by_cases r : m = m'
  · subst r; rw [isNth_uni h g]; exact Nat.le_refl _
  · have := isNth_lt h g (by omega); omega
theorem isNth_ex {M : Nat → Bool} : ∀ n m, m ≤ cntR M n → ∃ p, isNth n M m p
  | 0, m, h => ⟨0, Nat.le_refl _, by have : m ≤ 0 := h; show 0 = m; omega, Or.inl rfl⟩
  | n + 1, m, h => by
    cases hM : M n with
    | true =>
      rw [cntR_t hM] at h
      by_cases q : m = cntR M n + 1
      · exact ⟨n + 1, Nat.le_refl _, by rw [cntR_t hM, q], Or.inl rfl⟩
      · obtain ⟨p, h1, h2, h3⟩ := isNth_ex (M := M) n m (by omega)
        refine ⟨p, by omega, h2, Or.inr ?_⟩
        rcases h3 with r | r
        · rw [r]; exact hM
        · exact r
    | false =>
      rw [cntR_f hM] at h
      obtain ⟨p, h1, h2, h3⟩ := isNth_ex (M := M) n m h
      rcases h3 with r | r
      · exact ⟨n + 1, Nat.le_refl _, by rw [cntR_f hM, ← r]; exact h2, Or.inl rfl⟩
      · exact ⟨p, by omega, h2, Or.inr r⟩
def mw_C (n lo hi : Nat) (pl at_ : Nat → Nat) (A B : Nat → Bool) : Prop :=
  (∀ t, t < n → pl t < n ∧ at_ (pl t) = t) ∧ (∀ p, p < n → at_ p < n ∧ pl (at_ p) = p) ∧ (∀ t, A t = true → B t = false) ∧ (∀ t, A t = true ∨ B t = true → t < n ∧ lo ≤ pl t ∧ pl t ≤ hi) ∧ hi < n
def mw_M (at_ : Nat → Nat) (A B : Nat → Bool) (q : Nat) : Bool := A (at_ q) || B (at_ q)
def mw_S (at_ : Nat → Nat) (S : Nat → Bool) (q : Nat) : Bool := S (at_ q)
def mw_i (n : Nat) (pl at_ : Nat → Nat) (A B : Nat → Bool) (t : Nat) : Nat := if A t = true then cntR (mw_S at_ A) (pl t) else cntR (mw_S at_ A) n + cntR (mw_S at_ B) (pl t)
def mw_P (n : Nat) (pl at_ : Nat → Nat) (A B : Nat → Bool) (pl' : Nat → Nat) : Prop := ∀ t, t < n → (A t = false → B t = false → pl' t = pl t) ∧ (A t = true ∨ B t = true → isNth n (mw_M at_ A B) (mw_i n pl at_ A B t) (pl' t))
theorem mw_Mt {at_ : Nat → Nat} {A B : Nat → Bool} {q : Nat} : mw_M at_ A B q = true ↔ A (at_ q) = true ∨ B (at_ q) = true := by unfold mw_M; rw [Bool.or_eq_true]
theorem mw_Mf {at_ : Nat → Nat} {A B : Nat → Bool} {q : Nat} : mw_M at_ A B q = false ↔ A (at_ q) = false ∧ B (at_ q) = false := by unfold mw_M; rw [Bool.or_eq_false_iff]
section mw
variable {n lo hi : Nat} {pl at_ : Nat → Nat} {A B : Nat → Bool} {pl' : Nat → Nat}
theorem mw_sum (C : mw_C n lo hi pl at_ A B) : ∀ p, cntR (mw_M at_ A B) p = cntR (mw_S at_ A) p + cntR (mw_S at_ B) p
  | 0 => rfl
  | p + 1 => by
    have ih := mw_sum C p
    cases hA : A (at_ p) with
    | true =>
      have hB := C.2.2.1 _ hA
      rw [cntR_t (mw_Mt.mpr (Or.inl hA)), cntR_t (f := mw_S at_ A) hA, cntR_f (f := mw_S at_ B) hB, ih]; omega
    | false =>
      cases hB : B (at_ p) with
      | true => rw [cntR_t (mw_Mt.mpr (Or.inr hB)), cntR_f (f := mw_S at_ A) hA, cntR_t (f := mw_S at_ B) hB, ih]; omega
      | false => rw [cntR_f (mw_Mf.mpr ⟨hA, hB⟩), cntR_f (f := mw_S at_ A) hA, cntR_f (f := mw_S at_ B) hB, ih]
theorem mw_iA {t : Nat} (h : A t = true) : mw_i n pl at_ A B t = cntR (mw_S at_ A) (pl t) := by unfold mw_i; rw [if_pos h]
theorem mw_iB (C : mw_C n lo hi pl at_ A B) {t : Nat} (h : B t = true) : mw_i n pl at_ A B t = cntR (mw_S at_ A) n + cntR (mw_S at_ B) (pl t) := by
  unfold mw_i
  rw [if_neg]
  intro q
  rw [C.2.2.1 t q] at h
  cases h
theorem mw_Sp (C : mw_C n lo hi pl at_ A B) {S : Nat → Bool} {t : Nat} (ht : t < n) : mw_S at_ S (pl t) = S t := by show S (at_ (pl t)) = _; rw [(C.1 t ht).2]
theorem mw_ltn (C : mw_C n lo hi pl at_ A B) {S : Nat → Bool} {t : Nat} (ht : t < n) (h : S t = true) : cntR (mw_S at_ S) (pl t) < cntR (mw_S at_ S) n := cw_lt (C.1 t ht).1 (by rw [mw_Sp C ht]; exact h)
theorem mw_ilt (C : mw_C n lo hi pl at_ A B) {t : Nat} (h : A t = true ∨ B t = true) : mw_i n pl at_ A B t < cntR (mw_M at_ A B) n := by
  have ht := (C.2.2.2.1 t h).1
  rw [mw_sum C]
  rcases h with h | h
  · rw [mw_iA h]; have := mw_ltn C ht h; omega
  · rw [mw_iB C h]; have := mw_ltn C ht h; omega
theorem mw_ex (C : mw_C n lo hi pl at_ A B) : ∃ pl', mw_P n pl at_ A B pl' := by
  have h : ∀ t, ∃ p, t < n → (A t = false → B t = false → p = pl t) ∧ (A t = true ∨ B t = true → isNth n (mw_M at_ A B) (mw_i n pl at_ A B t) p) := by
    intro t
    by_cases q : A t = true ∨ B t = true
    · obtain ⟨p, hp⟩ := isNth_ex n _ (Nat.le_of_lt (mw_ilt C q))
      refine ⟨p, fun _ => ⟨fun h1 h2 => ?_, fun _ => hp⟩⟩
      rw [h1, h2] at q
      rcases q with q | q <;> cases q
    · exact ⟨pl t, fun _ => ⟨fun _ _ => rfl, fun r => absurd r q⟩⟩
  exact ⟨fun t => Classical.choose (h t), fun t => Classical.choose_spec (h t)⟩
theorem mw_cases (A B : Nat → Bool) (t : Nat) : (A t = true ∨ B t = true) ∨ (A t = false ∧ B t = false) := by
  cases A t <;> cases B t <;> simp
theorem mw_mk (C : mw_C n lo hi pl at_ A B) (P : mw_P n pl at_ A B pl') {t : Nat} (h : A t = true ∨ B t = true) : pl' t < n ∧ mw_M at_ A B (pl' t) = true := by
  have ht := (C.2.2.2.1 t h).1
  have g := (P t ht).2 h
  have := mw_ilt C h
  have q : pl' t ≠ n := fun e => by have := g.2.1; rw [e] at this; omega
  exact ⟨by have := g.1; omega, g.2.2.resolve_left q⟩
theorem mw_bt (C : mw_C n lo hi pl at_ A B) (P : mw_P n pl at_ A B pl') {t : Nat} (h : A t = true ∨ B t = true) : lo ≤ pl' t ∧ pl' t ≤ hi := by
  obtain ⟨h1, h2⟩ := mw_mk C P h
  have := C.2.2.2.1 _ (mw_Mt.mp h2)
  rw [(C.2.1 _ h1).2] at this
  exact this.2
theorem mw_lt (C : mw_C n lo hi pl at_ A B) (P : mw_P n pl at_ A B pl') {t : Nat} (ht : t < n) : pl' t < n := by
  rcases mw_cases A B t with h | ⟨h1, h2⟩
  · exact (mw_mk C P h).1
  · rw [(P t ht).1 h1 h2]; exact (C.1 t ht).1
theorem mw_plinj (C : mw_C n lo hi pl at_ A B) {t u : Nat} (ht : t < n) (hu : u < n) (h : pl t = pl u) : t = u := by
  rw [← (C.1 t ht).2, ← (C.1 u hu).2, h]
theorem mw_cinj (C : mw_C n lo hi pl at_ A B) {S : Nat → Bool} {t u : Nat} (ht : t < n) (hu : u < n) (h1 : S t = true) (h2 : S u = true) (h : cntR (mw_S at_ S) (pl t) = cntR (mw_S at_ S) (pl u)) : t = u := by
  refine mw_plinj C ht hu ?_
  rcases Nat.lt_trichotomy (pl t) (pl u) with r | r | r
  · have := cw_lt (f := mw_S at_ S) r (by rw [mw_Sp C ht]; exact h1); omega
  · exact r
  · have := cw_lt (f := mw_S at_ S) r (by rw [mw_Sp C hu]; exact h2); omega
theorem mw_iinj (C : mw_C n lo hi pl at_ A B) {t u : Nat} (h1 : A t = true ∨ B t = true) (h2 : A u = true ∨ B u = true) (h : mw_i n pl at_ A B t = mw_i n pl at_ A B u) : t = u := by
  have ht := (C.2.2.2.1 t h1).1
  have hu := (C.2.2.2.1 u h2).1
  rcases h1 with h1 | h1 <;> rcases h2 with h2 | h2
  · rw [mw_iA h1, mw_iA h2] at h
    exact mw_cinj C ht hu h1 h2 h
  · rw [mw_iA h1, mw_iB C h2] at h
    have := mw_ltn C ht h1
    omega
  · rw [mw_iB C h1, mw_iA h2] at h
    have := mw_ltn C hu h2
    omega
  · rw [mw_iB C h1, mw_iB C h2] at h
    exact mw_cinj C ht hu h1 h2 (by omega)
theorem mw_inj (C : mw_C n lo hi pl at_ A B) (P : mw_P n pl at_ A B pl') {t u : Nat} (ht : t < n) (hu : u < n) (h : pl' t = pl' u) : t = u := by
  have no : ∀ {t u : Nat}, u < n → (A t = true ∨ B t = true) → (A u = false ∧ B u = false) → pl' t = pl' u → False := by
    intro t u hu q1 q2 e
    have h2 := (mw_mk C P q1).2
    rw [e, (P u hu).1 q2.1 q2.2, mw_Mt, (C.1 u hu).2, q2.1, q2.2] at h2
    rcases h2 with r | r <;> cases r
  rcases mw_cases A B t with q1 | q1 <;> rcases mw_cases A B u with q2 | q2
  · have g1 := ((P t ht).2 q1).2.1
    have g2 := ((P u hu).2 q2).2.1
    exact mw_iinj C q1 q2 (by rw [← g1, ← g2, h])
  · exact absurd h (fun e => no hu q1 q2 e)
  · exact absurd h.symm (fun e => no ht q2 q1 e)
  · rw [(P t ht).1 q1.1 q1.2, (P u hu).1 q2.1 q2.2] at h
    exact mw_plinj C ht hu h
theorem mw_own (C : mw_C n lo hi pl at_ A B) {t : Nat} (h : A t = true ∨ B t = true) : isNth n (mw_M at_ A B) (cntR (mw_M at_ A B) (pl t)) (pl t) := by
  have ht := (C.2.2.2.1 t h).1
  refine ⟨Nat.le_of_lt (C.1 t ht).1, rfl, Or.inr ?_⟩
  rw [mw_Mt, (C.1 t ht).2]
  exact h
theorem mw_down (C : mw_C n lo hi pl at_ A B) (P : mw_P n pl at_ A B pl') {t : Nat} (h : A t = true) : pl' t ≤ pl t := by
  have ht := (C.2.2.2.1 t (Or.inl h)).1
  refine isNth_le ((P t ht).2 (Or.inl h)) (mw_own C (Or.inl h)) ?_
  rw [mw_iA h, mw_sum C]
  omega
theorem mw_up (C : mw_C n lo hi pl at_ A B) (P : mw_P n pl at_ A B pl') {t : Nat} (h : B t = true) : pl t ≤ pl' t := by
  have ht := (C.2.2.2.1 t (Or.inr h)).1
  refine isNth_le (mw_own C (Or.inr h)) ((P t ht).2 (Or.inr h)) ?_
  rw [mw_iB C h, mw_sum C]
  have := @cw_le (mw_S at_ A) (pl t) n (Nat.le_of_lt (C.1 t ht).1)
  omega
theorem mw_AB (C : mw_C n lo hi pl at_ A B) (P : mw_P n pl at_ A B pl') {u v : Nat} (hu : A u = true) (hv : B v = true) : pl' u < pl' v := by
  have hun := (C.2.2.2.1 u (Or.inl hu)).1
  have hvn := (C.2.2.2.1 v (Or.inr hv)).1
  refine isNth_lt ((P u hun).2 (Or.inl hu)) ((P v hvn).2 (Or.inr hv)) ?_
  rw [mw_iA hu, mw_iB C hv]
  have := mw_ltn C hun hu
  omega
theorem mw_edge (C : mw_C n lo hi pl at_ A B) (P : mw_P n pl at_ A B pl') {u v : Nat} (hu : u < n) (hv : v < n) (h : pl u < pl v) (h1 : A v = true → A u = true ∨ pl u < lo) (h2 : B u = true → B v = true ∨ hi < pl v) (h3 : B u = true → A v = true → False) : pl' u < pl' v := by
  rcases mw_cases A B u with q1 | q1 <;> rcases mw_cases A B v with q2 | q2
  · rcases q1 with q1 | q1 <;> rcases q2 with q2 | q2
    · refine isNth_lt ((P u hu).2 (Or.inl q1)) ((P v hv).2 (Or.inl q2)) ?_
      rw [mw_iA q1, mw_iA q2]
      exact cw_lt h (by rw [mw_Sp C hu]; exact q1)
    · exact mw_AB C P q1 q2
    · exact absurd (h3 q1 q2) id
    · refine isNth_lt ((P u hu).2 (Or.inr q1)) ((P v hv).2 (Or.inr q2)) ?_
      rw [mw_iB C q1, mw_iB C q2]
      have := cw_lt (f := mw_S at_ B) h (by rw [mw_Sp C hu]; exact q1)
      omega
  · rw [(P v hv).1 q2.1 q2.2]
    rcases q1 with q1 | q1
    · have := mw_down C P q1; omega
    · rcases h2 q1 with r | r
      · rw [q2.2] at r; cases r
      · have := (mw_bt C P (Or.inr q1)).2; omega
  · rw [(P u hu).1 q1.1 q1.2]
    rcases q2 with q2 | q2
    · rcases h1 q2 with r | r
      · rw [q1.1] at r; cases r
      · have := (mw_bt C P (Or.inl q2)).1; omega
    · have := mw_up C P q2; omega
  · rw [(P u hu).1 q1.1 q1.2, (P v hv).1 q2.1 q2.2]; exact h
/-- which task comes to a marked place -/
theorem mw_who (C : mw_C n lo hi pl at_ A B) (P : mw_P n pl at_ A B pl') {p : Nat} (hp : p < n) (hM : mw_M at_ A B p = true) : ∃ t, t < n ∧ (A t = true ∨ B t = true) ∧ pl' t = p ∧ mw_i n pl at_ A B t = cntR (mw_M at_ A B) p := by
  obtain ⟨t, ht, e⟩ := inj_surj n pl' (fun x hx => mw_lt C P hx) (fun x y hx hy q => mw_inj C P hx hy q) p hp
  rcases mw_cases A B t with q | q
  · refine ⟨t, ht, q, e, ?_⟩
    have := ((P t ht).2 q).2.1
    rw [← this, e]
  · rw [← e, (P t ht).1 q.1 q.2, mw_Mt, (C.1 t ht).2, q.1, q.2] at hM
    rcases hM with r | r <;> cases r
end mw
/-- the two kinds of the document: before x, behind y -/
noncomputable def mdA (n : Nat) (a : An) (x y t : Nat) : Bool := cd (t < n ∧ Rch a.2.1 t x ∧ a.2.2 y ≤ a.2.2 t)
noncomputable def mdB (n : Nat) (a : An) (x y t : Nat) : Bool := cd (t < n ∧ Rch a.2.1 y t ∧ a.2.2 t ≤ a.2.2 x)
noncomputable def atA (n : Nat) (a : An) (p : Nat) : Nat := @dite Nat (∃ x, x < n ∧ a.2.2 x = p) (Classical.propDecidable _) (fun h => Classical.choose h) (fun _ => 0)
theorem atA_p {n : Nat} {a : An} (ok : rl_ok n a) {p : Nat} (hp : p < n) : atA n a p < n ∧ a.2.2 (atA n a p) = p := by
  have h := rl_surj ok hp
  unfold atA
  rw [dif_pos h]
  exact Classical.choose_spec h
theorem atA_t {n : Nat} {a : An} (ok : rl_ok n a) {t : Nat} (ht : t < n) : atA n a (a.2.2 t) = t := by
  have := atA_p ok (ok.2.2.1 t ht)
  exact ok.2.2.2.1 _ _ this.1 ht this.2
theorem Rch_tr {E : Nat → Nat → Bool} : ∀ {k x y z : Nat}, rk E k x y → Rch E y z → Rch E x z
  | 0, x, y, z, h, g => by have h : x = y := h; rw [h]; exact g
  | k + 1, x, y, z, h, g => by
    obtain ⟨w, h1, h2⟩ := h
    exact Rch_step h1 (Rch_tr h2 g)
theorem Rch_pl {n : Nat} {a : An} (ok : rl_ok n a) {x y : Nat} (h : Rch a.2.1 x y) : a.2.2 x ≤ a.2.2 y := by
  rcases Rch_iff.mp h with q | ⟨k, q⟩
  · rw [q]; exact Nat.le_refl _
  · have := (rk_pl ok q).2.2; omega
theorem md_C {n : Nat} {a : An} (ok : rl_ok n a) {x y : Nat} (hx : x < n) (hr : ¬ Rch a.2.1 y x) : mw_C n (a.2.2 y) (a.2.2 x) a.2.2 (atA n a) (mdA n a x y) (mdB n a x y) := by
  refine ⟨fun t ht => ⟨ok.2.2.1 t ht, atA_t ok ht⟩, fun p hp => atA_p ok hp, fun t h => ?_, fun t h => ?_, ok.2.2.1 x hx⟩
  · have h := cd_t.mp h
    refine cd_f.mpr (fun g => hr ?_)
    obtain ⟨k, hk⟩ := g.2.1
    exact Rch_tr hk h.2.1
  · rcases h with h | h
    · have h := cd_t.mp h
      exact ⟨h.1, h.2.2, Rch_pl ok h.2.1⟩
    · have h := cd_t.mp h
      exact ⟨h.1, Rch_pl ok h.2.1, h.2.2⟩
def isMend (n : Nat) (a : An) (x y : Nat) (pl' : Nat → Nat) : Prop := (a.2.2 x ≤ a.2.2 y → ∀ t, t < n → pl' t = a.2.2 t) ∧ (a.2.2 y < a.2.2 x → mw_P n a.2.2 (atA n a) (mdA n a x y) (mdB n a x y) pl')
def putA (a : An) (x y : Nat) (pl' : Nat → Nat) : An := (a.1, (fun u v => if u = x ∧ v = y then true else a.2.1 u v), pl')
theorem putA_cnt {a : An} {x y : Nat} {pl' : Nat → Nat} (hx : x < 60) (hy : y < 60) (h : a.2.1 x y = false) : cntE (putA a x y pl').2.1 60 = cntE a.2.1 60 + 1 := by
  refine (cntE_drop (f := (putA a x y pl').2.1) (g := a.2.1) (x := x) (y := y) hy ?_ h (fun u v q => ?_) 60 hx).symm
  · show (if x = x ∧ y = y then true else _) = true
    rw [if_pos ⟨rfl, rfl⟩]
  · show (if u = x ∧ v = y then true else _) = _
    rw [if_neg q]
theorem rl_ok_put {n : Nat} {a : An} (hn : n ≤ 60) (ok : rl_ok n a) {x y : Nat} {pl' : Nat → Nat} (hx : x < n) (hy : y < n) (hE : a.2.1 x y = false) (hr : ¬ Rch a.2.1 y x) (hc : cntE a.2.1 60 < 400) (hm : isMend n a x y pl') : rl_ok n (putA a x y pl') := by
  have hne : a.2.2 x ≠ a.2.2 y := fun q => hr (by rw [ok.2.2.2.1 x y hx hy q]; exact ⟨0, rfl⟩)
  have hcnt : cntE (putA a x y pl').2.1 60 ≤ 400 := by rw [putA_cnt (by omega) (by omega) hE]; omega
  rcases Nat.lt_or_ge (a.2.2 y) (a.2.2 x) with q | q
  · have P := hm.2 q
    have C := md_C ok hx hr
    have hAx : mdA n a x y x = true := cd_t.mpr ⟨hx, ⟨0, rfl⟩, by omega⟩
    have hBy : mdB n a x y y = true := cd_t.mpr ⟨hy, ⟨0, rfl⟩, by omega⟩
    refine ⟨ok.1, fun u v h => ?_, fun t ht => mw_lt C P ht, fun t u ht hu h => mw_inj C P ht hu h, hcnt⟩
    by_cases e : u = x ∧ v = y
    · rw [e.1, e.2]
      exact ⟨hx, hy, mw_AB C P hAx hBy⟩
    · have h : (if u = x ∧ v = y then true else a.2.1 u v) = true := h
      rw [if_neg e] at h
      obtain ⟨hu, hv, hpl⟩ := ok.2.1 u v h
      refine ⟨hu, hv, mw_edge C P hu hv hpl (fun g => ?_) (fun g => ?_) (fun g1 g2 => hr ?_)⟩
      · have g := cd_t.mp g
        rcases Nat.lt_or_ge (a.2.2 u) (a.2.2 y) with r | r
        · exact Or.inr r
        · exact Or.inl (cd_t.mpr ⟨hu, Rch_step h g.2.1, r⟩)
      · have g := cd_t.mp g
        rcases Nat.lt_or_ge (a.2.2 x) (a.2.2 v) with r | r
        · exact Or.inr r
        · obtain ⟨k, hk⟩ := g.2.1
          exact Or.inl (cd_t.mpr ⟨hv, ⟨k + 1, rk_snoc hk h⟩, r⟩)
      · obtain ⟨k, hk⟩ := (cd_t.mp g1).2.1
        exact Rch_tr hk (Rch_step h (cd_t.mp g2).2.1)
  · have P := hm.1 q
    refine ⟨ok.1, fun u v h => ?_, fun t ht => by show pl' t < n; rw [P t ht]; exact ok.2.2.1 t ht, fun t u ht hu h => ?_, hcnt⟩
    · show u < n ∧ v < n ∧ pl' u < pl' v
      by_cases e : u = x ∧ v = y
      · rw [e.1, e.2, P x hx, P y hy]
        exact ⟨hx, hy, by omega⟩
      · have h : (if u = x ∧ v = y then true else a.2.1 u v) = true := h
        rw [if_neg e] at h
        obtain ⟨hu, hv, hpl⟩ := ok.2.1 u v h
        rw [P u hu, P v hv]
        exact ⟨hu, hv, hpl⟩
    · have h : pl' t = pl' u := h
      rw [P t ht, P u hu] at h
      exact ok.2.2.2.1 t u ht hu h
