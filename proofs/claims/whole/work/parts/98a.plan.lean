/-! THE PLAN: begun, done, begins, workers of tasks -/
abbrev PS : Type := (Nat → Bool) × (Nat → Bool) × (Nat → Nat) × (Nat → Nat)
def itr {α : Type} (R : α → α → Prop) : Nat → α → α → Prop
  | 0, s, t => s = t
  | k + 1, s, t => ∃ u, R s u ∧ itr R k u t
theorem itr_snoc {α : Type} {R : α → α → Prop} : ∀ {k : Nat} {s t u : α}, itr R k s t → R t u → itr R (k + 1) s u
  | 0, s, t, u, h, g => by
    have h : s = t := h
    subst h
    exact ⟨u, g, rfl⟩
  | k + 1, s, t, u, h, g => by
    obtain ⟨v, h1, h2⟩ := h
    exact ⟨v, h1, itr_snoc h2 g⟩
def endsIn {α : Type} (R : α → α → Prop) (N : α → Prop) (s t : α) : Prop := ∃ k, itr R k s t ∧ N t
theorem ends_uni {α : Type} {R : α → α → Prop} {N : α → Prop} (hd : ∀ s u v, R s u → R s v → u = v) (hx : ∀ s u, R s u → ¬ N s) : ∀ {k j : Nat} {s t t' : α}, itr R k s t → N t → itr R j s t' → N t' → t = t'
  | 0, 0, s, t, t', h1, _, g1, _ => by
    have h1 : s = t := h1
    have g1 : s = t' := g1
    rw [← h1, ← g1]
  | 0, j + 1, s, t, t', h1, h2, g1, _ => by
    have h1 : s = t := h1
    subst h1
    obtain ⟨u, q, _⟩ := g1
    exact absurd h2 (hx s u q)
  | k + 1, 0, s, t, t', h1, _, g1, g2 => by
    have g1 : s = t' := g1
    subst g1
    obtain ⟨u, q, _⟩ := h1
    exact absurd g2 (hx s u q)
  | k + 1, j + 1, s, t, t', h1, h2, g1, g2 => by
    obtain ⟨u, q1, q2⟩ := h1
    obtain ⟨v, p1, p2⟩ := g1
    have e := hd _ _ _ q1 p1
    subst e
    exact ends_uni hd hx q2 h2 p2 g2
theorem endsIn_uni {α : Type} {R : α → α → Prop} {N : α → Prop} (hd : ∀ s u v, R s u → R s v → u = v) (hx : ∀ s u, R s u → ¬ N s) {s t t' : α} (h : endsIn R N s t) (g : endsIn R N s t') : t = t' := by
  obtain ⟨k, h1, h2⟩ := h
  obtain ⟨j, g1, g2⟩ := g
  exact ends_uni hd hx h1 h2 g1 g2
/-- the one with the most, the first of these -/
def isB (k : Nat) (T : Nat → Nat) (R : Nat → Prop) (r : Int32) : Prop := (∃ x, x < k ∧ R x ∧ (∀ y, y < k → R y → T y ≤ T x) ∧ (∀ y, y < x → R y → T y < T x) ∧ r = nI x) ∨ ((∀ x, x < k → ¬ R x) ∧ r = -1)
theorem isB_uni {k : Nat} {T : Nat → Nat} {R : Nat → Prop} {r s : Int32} (h : isB k T R r) (g : isB k T R s) : r = s := by
  rcases h with ⟨x, h1, h2, h3, h4, h5⟩ | ⟨h1, h2⟩ <;> rcases g with ⟨y, g1, g2, g3, g4, g5⟩ | ⟨g1, g2⟩
  · have : x = y := by
      rcases Nat.lt_trichotomy x y with q | q | q
      · have := g4 x q h2; have := h3 y g1 g2; omega
      · exact q
      · have := h4 y q g2; have := g3 x h1 h2; omega
    rw [h5, g5, this]
  · exact absurd h2 (g1 x h1)
  · exact absurd g2 (h1 y g1)
  · rw [h2, g2]
theorem isB_f {k : Nat} {T : Nat → Nat} {R : Nat → Prop} {r : Int32} (h : isB k T R r) (hn : ¬ R k) : isB (k + 1) T R r := by
  have old : ∀ y, y < k + 1 → R y → y < k := fun y hy q => by
    have : y ≠ k := fun e => hn (by rw [← e]; exact q)
    omega
  rcases h with ⟨x, h1, h2, h3, h4, h5⟩ | ⟨h1, h2⟩
  · exact Or.inl ⟨x, by omega, h2, fun y hy q => h3 y (old y hy q) q, h4, h5⟩
  · exact Or.inr ⟨fun x hx q => h1 x (old x hx q) q, h2⟩
theorem isB_1 {k : Nat} {T : Nat → Nat} {R : Nat → Prop} {r : Int32} (hk : k ≤ 60) (h : isB k T R r) (e : r = -1) (hR : R k) : isB (k + 1) T R (nI k) := by
  rcases h with ⟨x, h1, h2, h3, h4, h5⟩ | ⟨h1, h2⟩
  · exact absurd (h5.symm.trans e) (nI_ne1 (by omega))
  · refine Or.inl ⟨k, by omega, hR, fun y hy q => ?_, fun y hy q => absurd q (h1 y hy), rfl⟩
    by_cases z : y = k
    · rw [z]; exact Nat.le_refl _
    · exact absurd q (h1 y (by omega))
theorem isB_x {k : Nat} {T : Nat → Nat} {R : Nat → Prop} {r : Int32} (h : isB k T R r) (e : r ≠ -1) : ∃ x, x < k ∧ r = nI x := by
  rcases h with ⟨x, h1, h2, h3, h4, h5⟩ | ⟨h1, h2⟩
  · exact ⟨x, h1, h5⟩
  · exact absurd h2 e
theorem isB_2 {k x : Nat} {T : Nat → Nat} {R : Nat → Prop} (hk : k ≤ 60) (hx : x < k) (h : isB k T R (nI x)) (hT : T k ≤ T x) : isB (k + 1) T R (nI x) := by
  rcases h with ⟨y, h1, h2, h3, h4, h5⟩ | ⟨h1, h2⟩
  · have e : x = y := nI_inj (by omega) (by omega) h5
    subst e
    refine Or.inl ⟨x, by omega, h2, fun y hy q => ?_, h4, rfl⟩
    by_cases z : y = k
    · rw [z]; exact hT
    · exact h3 y (by omega) q
  · exact absurd h2 (nI_ne1 (by omega))
theorem isB_3 {k x : Nat} {T : Nat → Nat} {R : Nat → Prop} (hk : k ≤ 60) (hx : x < k) (h : isB k T R (nI x)) (hR : R k) (hT : T x < T k) : isB (k + 1) T R (nI k) := by
  rcases h with ⟨y, h1, h2, h3, h4, h5⟩ | ⟨h1, h2⟩
  · have e : x = y := nI_inj (by omega) (by omega) h5
    subst e
    refine Or.inl ⟨k, by omega, hR, fun y hy q => ?_, fun y hy q => ?_, rfl⟩
    · by_cases z : y = k
      · rw [z]; exact Nat.le_refl _
      · have := h3 y (by omega) q; omega
    · have := h3 y hy q; omega
  · exact absurd h2 (nI_ne1 (by omega))
def rn (σ : PS) (t : Nat) : Prop := σ.1 t = true ∧ σ.2.1 t = false
def en (a : An) (σ : PS) (t : Nat) : Nat := σ.2.2.1 t + a.1 t
def freeW (σ : PS) (w : Nat) : Prop := ∀ t, rn σ t → σ.2.2.2 t ≠ w
def rdy (a : An) (σ : PS) (t : Nat) : Prop := σ.1 t = false ∧ ∀ x, a.2.1 x t = true → σ.2.1 x = true
def tkS (a : An) (now : Nat) (σ : PS) (w t : Nat) : PS := (fun u => if u = t then true else σ.1 u, fun u => if u = t then decide (a.1 t = 0) else σ.2.1 u, fun u => if u = t then now else σ.2.2.1 u, fun u => if u = t then w else σ.2.2.2 u)
def stT (n : Nat) (a : An) (m now : Nat) (σ τ : PS) : Prop := ∃ w t, w < m ∧ t < n ∧ isL m (freeW σ) (nI w) ∧ isB n (Ta n a) (rdy a σ) (nI t) ∧ τ = tkS a now σ w t
def noT (n : Nat) (a : An) (m : Nat) (σ : PS) : Prop := isL m (freeW σ) (-1) ∨ isB n (Ta n a) (rdy a σ) (-1)
def endS (a : An) (σ : PS) (now : Nat) : PS := (σ.1, fun t => σ.2.1 t || (σ.1 t && decide (en a σ t = now)), σ.2.2.1, σ.2.2.2)
def RND (n : Nat) (a : An) (m : Nat) (p q : PS × Nat) : Prop := ∃ σ1, endsIn (stT n a m p.2) (noT n a m) p.1 σ1 ∧ (∃ t, rn σ1 t ∧ (∀ u, rn σ1 u → en a σ1 t ≤ en a σ1 u) ∧ q.2 = en a σ1 t) ∧ q.1 = endS a σ1 q.2
def STOP (n : Nat) (a : An) (m : Nat) (p : PS × Nat) (σ1 : PS) : Prop := endsIn (stT n a m p.2) (noT n a m) p.1 σ1 ∧ ∀ t, ¬ rn σ1 t
theorem stT_uni {n m now : Nat} {a : An} (hn : n ≤ 60) (hm : m ≤ 8) (s u v : PS) (h : stT n a m now s u) (g : stT n a m now s v) : u = v := by
  obtain ⟨w, t, h1, h2, h3, h4, h5⟩ := h
  obtain ⟨w2, t2, g1, g2, g3, g4, g5⟩ := g
  have e1 : w = w2 := nI_inj (by omega) (by omega) (isL_uni h3 g3)
  have e2 : t = t2 := nI_inj (by omega) (by omega) (isB_uni h4 g4)
  rw [h5, g5, e1, e2]
theorem stT_no {n m now : Nat} {a : An} (hn : n ≤ 60) (hm : m ≤ 8) (s u : PS) (h : stT n a m now s u) : ¬ noT n a m s := by
  obtain ⟨w, t, h1, h2, h3, h4, h5⟩ := h
  rintro (g | g)
  · exact nI_ne1 (by omega) (isL_uni h3 g)
  · exact nI_ne1 (by omega) (isB_uni h4 g)
theorem RND_uni {n m : Nat} {a : An} (hn : n ≤ 60) (hm : m ≤ 8) (p q r : PS × Nat) (h : RND n a m p q) (g : RND n a m p r) : q = r := by
  obtain ⟨s, h1, ⟨t, h2, h3, h4⟩, h5⟩ := h
  obtain ⟨s2, g1, ⟨t2, g2, g3, g4⟩, g5⟩ := g
  have e := endsIn_uni (stT_uni hn hm) (stT_no hn hm) h1 g1
  subst e
  have e2 : q.2 = r.2 := by
    have := h3 t2 g2
    have := g3 t h2
    omega
  have e1 : q.1 = r.1 := by rw [h5, g5, e2]
  exact Prod.ext e1 e2
theorem RND_no {n m : Nat} {a : An} (hn : n ≤ 60) (hm : m ≤ 8) (p q : PS × Nat) (h : RND n a m p q) : ¬ ∃ s, STOP n a m p s := by
  obtain ⟨s, h1, ⟨t, h2, h3, h4⟩, h5⟩ := h
  rintro ⟨s2, g1, g2⟩
  have e := endsIn_uni (stT_uni hn hm) (stT_no hn hm) h1 g1
  subst e
  exact g2 t h2
theorem plan_uni {n m : Nat} {a : An} (hn : n ≤ 60) (hm : m ≤ 8) {k j : Nat} {p0 p q : PS × Nat} {s s2 : PS} (h1 : itr (RND n a m) k p0 p) (h2 : STOP n a m p s) (g1 : itr (RND n a m) j p0 q) (g2 : STOP n a m q s2) : p = q ∧ s = s2 := by
  have e := ends_uni (N := fun p => ∃ s, STOP n a m p s) (RND_uni hn hm) (RND_no hn hm) h1 ⟨s, h2⟩ g1 ⟨s2, g2⟩
  subst e
  exact ⟨rfl, endsIn_uni (stT_uni hn hm) (stT_no hn hm) h2.1 g2.1⟩
/-- what holds of such a state -/
def AI (n m B : Nat) (σ : PS) : Prop := (∀ t, σ.1 t = true → t < n ∧ σ.2.2.2 t < m ∧ σ.2.2.1 t ≤ B) ∧ (∀ t, σ.2.1 t = true → σ.1 t = true) ∧ ∀ t u, rn σ t → rn σ u → σ.2.2.2 t = σ.2.2.2 u → t = u
theorem AI_mono {n m B B2 : Nat} {σ : PS} (h : AI n m B σ) (hB : B ≤ B2) : AI n m B2 σ := ⟨fun t ht => ⟨(h.1 t ht).1, (h.1 t ht).2.1, by have := (h.1 t ht).2.2; omega⟩, h.2⟩
theorem tk_1 {a : An} {now w t u : Nat} {σ : PS} : (tkS a now σ w t).1 u = if u = t then true else σ.1 u := rfl
theorem tk_2 {a : An} {now w t u : Nat} {σ : PS} : (tkS a now σ w t).2.1 u = if u = t then decide (a.1 t = 0) else σ.2.1 u := rfl
theorem tk_3 {a : An} {now w t u : Nat} {σ : PS} : (tkS a now σ w t).2.2.1 u = if u = t then now else σ.2.2.1 u := rfl
theorem tk_4 {a : An} {now w t u : Nat} {σ : PS} : (tkS a now σ w t).2.2.2 u = if u = t then w else σ.2.2.2 u := rfl
theorem rn_tk {a : An} {now w t u : Nat} {σ : PS} : rn (tkS a now σ w t) u ↔ (u = t ∧ a.1 t ≠ 0) ∨ (u ≠ t ∧ rn σ u) := by
  unfold rn
  rw [tk_1, tk_2]
  by_cases e : u = t
  · rw [if_pos e, if_pos e, decide_eq_false_iff_not]
    exact ⟨fun h => Or.inl ⟨e, h.2⟩, fun h => h.elim (fun h => ⟨rfl, h.2⟩) (fun h => absurd e h.1)⟩
  · rw [if_neg e, if_neg e]
    exact ⟨fun h => Or.inr ⟨e, h⟩, fun h => h.elim (fun h => absurd h.1 e) (fun h => h.2)⟩
theorem en_tk {a : An} {now w t u : Nat} {σ : PS} : en a (tkS a now σ w t) u = if u = t then now + a.1 t else en a σ u := by
  unfold en
  rw [tk_3]
  by_cases e : u = t
  · rw [if_pos e, if_pos e, e]
  · rw [if_neg e, if_neg e]
theorem AI_tk {n m B now w t : Nat} {a : An} {σ : PS} (h : AI n m B σ) (ht : t < n) (hw : w < m) (hb : now ≤ B) (hf : freeW σ w) : AI n m B (tkS a now σ w t) := by
  refine ⟨fun u hu => ?_, fun u hu => ?_, fun u v hu hv e => ?_⟩
  · rw [tk_1] at hu
    rw [tk_3, tk_4]
    by_cases e : u = t
    · rw [if_pos e, if_pos e, e]; exact ⟨ht, hw, hb⟩
    · rw [if_neg e] at hu ⊢
      rw [if_neg e]
      exact h.1 u hu
  · rw [tk_2] at hu
    rw [tk_1]
    by_cases e : u = t
    · rw [if_pos e]
    · rw [if_neg e] at hu ⊢
      exact h.2.1 u hu
  · rw [tk_4, tk_4] at e
    rcases rn_tk.mp hu with ⟨e1, -⟩ | ⟨e1, hu⟩ <;> rcases rn_tk.mp hv with ⟨e2, -⟩ | ⟨e2, hv⟩
    · rw [e1, e2]
    · rw [if_pos e1, if_neg e2] at e
      exact absurd e.symm (hf v hv)
    · rw [if_neg e1, if_pos e2] at e
      exact absurd e (hf u hu)
    · rw [if_neg e1, if_neg e2] at e
      exact h.2.2 u v hu hv e
theorem isL_at {n x : Nat} {P : Nat → Prop} (hn : n ≤ 60) (hx : x < n) (h : isL n P (nI x)) : P x := by
  rcases h with ⟨y, h1, h2, h3, h4⟩ | ⟨h1, h2⟩
  · rw [nI_inj (by omega) (by omega) h4]; exact h2
  · exact absurd h2 (nI_ne1 (by omega))
theorem isB_at {n x : Nat} {T : Nat → Nat} {P : Nat → Prop} (hn : n ≤ 60) (hx : x < n) (h : isB n T P (nI x)) : P x := by
  rcases h with ⟨y, h1, h2, h3, h4, h5⟩ | ⟨h1, h2⟩
  · rw [nI_inj (by omega) (by omega) h5]; exact h2
  · exact absurd h2 (nI_ne1 (by omega))
theorem stT_AI {n m B now : Nat} {a : An} {σ τ : PS} (hn : n ≤ 60) (hm : m ≤ 8) (h : AI n m B σ) (hb : now ≤ B) (g : stT n a m now σ τ) : AI n m B τ ∧ (∀ t, σ.2.1 t = true → τ.2.1 t = true) ∧ cntR σ.1 n + 1 = cntR τ.1 n := by
  obtain ⟨w, t, h1, h2, h3, h4, rfl⟩ := g
  have hr := isB_at hn h2 h4
  have hf := isL_at (by omega) h1 h3
  refine ⟨AI_tk h h2 h1 hb hf, fun u hu => ?_, ?_⟩
  · rw [tk_2, if_neg]
    · exact hu
    · intro e
      have := h.2.1 u hu
      rw [e, hr.1] at this
      cases this
  · exact cntR_drop (y := t) (by rw [tk_1, if_pos rfl]) hr.1 (fun j hj => by rw [tk_1, if_neg hj]) n h2
theorem itr_AI {n m B now : Nat} {a : An} (hn : n ≤ 60) (hm : m ≤ 8) (hb : now ≤ B) : ∀ {k : Nat} {σ τ : PS}, AI n m B σ → itr (stT n a m now) k σ τ → AI n m B τ ∧ (∀ t, σ.2.1 t = true → τ.2.1 t = true) ∧ cntR σ.1 n + k = cntR τ.1 n
  | 0, σ, τ, h, g => by
    have g : σ = τ := g
    subst g
    exact ⟨h, fun _ q => q, rfl⟩
  | k + 1, σ, τ, h, g => by
    obtain ⟨u, g1, g2⟩ := g
    obtain ⟨q1, q2, q3⟩ := stT_AI hn hm h hb g1
    obtain ⟨p1, p2, p3⟩ := itr_AI hn hm hb q1 g2
    exact ⟨p1, fun t ht => p2 t (q2 t ht), by omega⟩
theorem rn_end {a : An} {σ : PS} {now u : Nat} : rn (endS a σ now) u ↔ rn σ u ∧ en a σ u ≠ now := by
  unfold rn endS
  show σ.1 u = true ∧ (σ.2.1 u || (σ.1 u && decide (en a σ u = now))) = false ↔ _
  rw [Bool.or_eq_false_iff, Bool.and_eq_false_iff, decide_eq_false_iff_not]
  constructor
  · rintro ⟨h1, h2, h3⟩
    exact ⟨⟨h1, h2⟩, h3.elim (fun q => by rw [h1] at q; cases q) id⟩
  · rintro ⟨⟨h1, h2⟩, h3⟩
    exact ⟨h1, h2, Or.inr h3⟩
theorem en_end {a : An} {σ : PS} {now u : Nat} : en a (endS a σ now) u = en a σ u := rfl
theorem AI_end {n m B now : Nat} {a : An} {σ : PS} (h : AI n m B σ) : AI n m B (endS a σ now) := by
  refine ⟨h.1, fun t ht => ?_, fun t u ht hu e => h.2.2 t u (rn_end.mp ht).1 (rn_end.mp hu).1 e⟩
  have ht : (σ.2.1 t || (σ.1 t && decide (en a σ t = now))) = true := ht
  rw [Bool.or_eq_true, Bool.and_eq_true] at ht
  rcases ht with q | q
  · exact h.2.1 t q
  · exact q.1
theorem RND_AI {n m B : Nat} {a : An} {p q : PS × Nat} (hn : n ≤ 60) (hm : m ≤ 8) (ok : rl_ok n a) (h : AI n m B p.1) (hb : p.2 ≤ B) (g : RND n a m p q) : AI n m (B + 1000) q.1 ∧ q.2 ≤ B + 1000 ∧ cntR p.1.2.1 n + 1 ≤ cntR q.1.2.1 n := by
  obtain ⟨s, ⟨k, h1, -⟩, ⟨t, h2, h3, h4⟩, h5⟩ := g
  obtain ⟨q1, q2, q3⟩ := itr_AI hn hm hb h h1
  have ht := q1.1 t h2.1
  have hw := ok.1 t ht.1
  refine ⟨by rw [h5]; exact AI_mono (AI_end q1) (by omega), ?_, ?_⟩
  · rw [h4]; unfold en; omega
  · rw [h5]
    refine cntR_lt n (fun j _ hj => ?_) ⟨t, ht.1, ?_, ?_⟩
    · show (s.2.1 j || _) = true
      rw [q2 j hj]; rfl
    · show (s.2.1 t || (s.1 t && decide (en a s t = q.2))) = true
      rw [h2.1, decide_eq_true h4.symm]
      simp
    · cases e : p.1.2.1 t with
      | false => rfl
      | true =>
        have := q2 t e
        rw [h2.2] at this
        cases this
theorem plan_AI {n m : Nat} {a : An} (hn : n ≤ 60) (hm : m ≤ 8) (ok : rl_ok n a) : ∀ {k : Nat} {B c : Nat} {p q : PS × Nat}, AI n m B p.1 → p.2 ≤ B → c ≤ cntR p.1.2.1 n → itr (RND n a m) k p q → AI n m (B + 1000 * k) q.1 ∧ q.2 ≤ B + 1000 * k ∧ c + k ≤ cntR q.1.2.1 n
  | 0, B, c, p, q, h, hb, hc, g => by
    have g : p = q := g
    subst g
    exact ⟨h, hb, hc⟩
  | k + 1, B, c, p, q, h, hb, hc, g => by
    obtain ⟨u, g1, g2⟩ := g
    obtain ⟨q1, q2, q3⟩ := RND_AI hn hm ok h hb g1
    obtain ⟨p1, p2, p3⟩ := plan_AI hn hm ok (c := c + 1) q1 q2 (by omega) g2
    rw [show B + 1000 * (k + 1) = B + 1000 + 1000 * k by omega]
    exact ⟨p1, p2, by omega⟩
def PS0 : PS := (fun _ => false, fun _ => false, fun _ => 0, fun _ => 0)
theorem AI_0 {n m : Nat} : AI n m 0 PS0 := ⟨fun t h => absurd h Bool.false_ne_true, fun t h => absurd h Bool.false_ne_true, fun t u h => absurd h.1 Bool.false_ne_true⟩
theorem plan_AI0 {n m k : Nat} {a : An} (hn : n ≤ 60) (hm : m ≤ 8) (ok : rl_ok n a) {q : PS × Nat} (g : itr (RND n a m) k (PS0, 0) q) : AI n m (1000 * k) q.1 ∧ q.2 ≤ 1000 * k ∧ k ≤ n := by
  obtain ⟨h1, h2, h3⟩ := plan_AI hn hm ok (c := 0) AI_0 (Nat.le_refl 0) (Nat.zero_le _) g
  rw [Nat.zero_add] at h1 h2
  have := cw_all q.1.2.1 n
  exact ⟨h1, h2, by omega⟩
theorem noT_full {n m : Nat} {a : An} {σ : PS} (h : n ≤ cntR σ.1 n) : noT n a m σ := by
  refine Or.inr (Or.inr ⟨fun x hx q => ?_, rfl⟩)
  have : cntR σ.1 n < cntR (fun _ => true) n := cntR_lt n (fun _ _ _ => rfl) ⟨x, hx, rfl, q.1⟩
  have := cw_all (fun _ => true) n
  omega
