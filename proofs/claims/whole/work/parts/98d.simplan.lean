theorem sp_zero8 {n : Nat} {begun done : Nat → Int32} {x1 : Int32} (hn : n ≤ 60) {kx : (Nat → Int32) → (Nat → Int32) → Prop} (h : ∀ b d, (∀ t, t < n → b t = 0) → (∀ t, t < n → d t = 0) → kx b d) : ∃ k, lp_X8_plan_32 (nI n) x1 k begun done 0 kx := by
  refine pk_loop (σ := (Nat → Int32) × (Nat → Int32)) (fun k i s => lp_X8_plan_32 (nI n) x1 k s.1 s.2 (nI i) kx) (fun i s => (∀ t, t < i → s.1 t = 0) ∧ ∀ t, t < i → s.2 t = 0) n 0 (begun, done) (Nat.zero_le n) ⟨fun t ht => absurd ht (by omega), fun t ht => absurd ht (by omega)⟩ ?_ ?_
  · rintro k ⟨b, d⟩ hI
    show lp_X8_plan_32 _ _ (k + 1) b d (nI n) _
    rw [lp_X8_plan_32]
    exact br_t (nI_le (Nat.le_refl n) (by omega)) (h b d hI.1 hI.2)
  · rintro k i ⟨b, d⟩ hi hI ih
    show lp_X8_plan_32 _ _ (k + 1) b d (nI i) _
    rw [lp_X8_plan_32, nI_cl (by omega), nb0]
    refine br_f (nI_ge hi (by omega)) ⟨vp_in_nI (by omega) (by omega), fun b2 eb => ⟨vp_in_nI (by omega) (by omega), fun d2 ed z ez => ?_⟩⟩
    rw [ez, nI_1]
    refine ih (b2, d2) ⟨fun t ht => ?_, fun t ht => ?_⟩
    · show b2 t = 0
      rw [eb]
      by_cases e : t = i
      · rw [e, pk_us]
      · rw [pk_un e]; exact hI.1 t (by omega)
    · show d2 t = 0
      rw [ed]
      by_cases e : t = i
      · rw [e, pk_us]
      · rw [pk_un e]; exact hI.2 t (by omega)
theorem sp_idle8 {busy : Nat → Int32} {x1 : Int32} {kx : (Nat → Int32) → Prop} (h : ∀ b, (∀ t, t < 8 → b t = 0) → kx b) : ∃ k, lp_X8_plan_62 x1 k busy 0 kx := by
  refine pk_loop (σ := Nat → Int32) (fun k i s => lp_X8_plan_62 x1 k s (nI i) kx) (fun i s => ∀ t, t < i → s t = 0) 8 0 busy (Nat.zero_le 8) (fun t ht => absurd ht (by omega)) ?_ ?_
  · intro k b hI
    show lp_X8_plan_62 _ (k + 1) b (nI 8) _
    rw [lp_X8_plan_62]
    exact br_t (by decide) (h b hI)
  · intro k i b hi hI ih
    show lp_X8_plan_62 _ (k + 1) b (nI i) _
    rw [lp_X8_plan_62, nI_cl (by omega), nb0]
    refine br_f (show ¬ nI 8 ≤ nI i from nI_ge hi (by omega)) ⟨vp_in_nI (by omega) (by omega), fun b2 eb z ez => ?_⟩
    rw [ez, nI_1]
    refine ih b2 (fun t ht => ?_)
    rw [eb]
    by_cases e : t = i
    · rw [e, pk_us]
    · rw [pk_un e]; exact hI t (by omega)
theorem sp_next101 {n m B : Nat} {a : An} {σ : PS} {b0 w0 begins workers ends begun done busy : Nat → Int32} {x1 x2 : Int32} (hn : n ≤ 60) (ok : rl_ok n a) (hA : AI n m B σ) (hB : B ≤ 100000) (hM : pl_M n m a σ b0 w0 begins workers ends begun done busy) {kx : Int32 → Prop} (hp : ∀ r, nxR a σ r → kx r) : ∃ k, lp_X8_plan_101 (nI n) ends begun done x1 x2 k (-1) 0 kx := by
  have hen : ∀ t, rn σ t → t < n ∧ en a σ t ≤ 101000 := fun t ht => by
    have := hA.1 t ht.1
    have := ok.1 t this.1
    unfold en
    exact ⟨by omega, by omega⟩
  refine pk_loop (σ := Int32) (fun k i s => lp_X8_plan_101 (nI n) ends begun done x1 x2 k s (nI i) kx) (fun i s => (∃ t, rn σ t ∧ t < i ∧ (∀ u, rn σ u → u < i → en a σ t ≤ en a σ u) ∧ s = nI (en a σ t)) ∨ ((∀ t, rn σ t → ¬ t < i) ∧ s = -1)) n 0 (-1) (Nat.zero_le n) (Or.inr ⟨fun t _ => by omega, rfl⟩) ?_ ?_
  · intro k s hI
    show lp_X8_plan_101 _ _ _ _ _ _ (k + 1) s (nI n) _
    rw [lp_X8_plan_101]
    refine br_t (nI_le (Nat.le_refl n) (by omega)) (hp s ?_)
    rcases hI with ⟨t, h1, h2, h3, h4⟩ | ⟨h1, h2⟩
    · exact Or.inl ⟨t, h1, fun u hu => h3 u hu (hen u hu).1, h4⟩
    · exact Or.inr ⟨fun t ht => h1 t ht (hen t ht).1, h2⟩
  · intro k i s hi hI ih
    show lp_X8_plan_101 _ _ _ _ _ _ (k + 1) s (nI i) _
    rw [lp_X8_plan_101, nI_cl (by omega)]
    have hin : vp_in (nI i) 60 := vp_in_nI (by omega) (by omega)
    have skip : ¬ rn σ i → ∀ z, z = nI i + 1 → lp_X8_plan_101 (nI n) ends begun done x1 x2 k s z kx := by
      intro hno z ez
      rw [ez, nI_1]
      have low : ∀ u, rn σ u → u < i + 1 → u < i := fun u hu q => by
        have : u ≠ i := fun e => hno (by rw [← e]; exact hu)
        omega
      refine ih s ?_
      rcases hI with ⟨v, g1, g2, g3, g4⟩ | ⟨g1, g2⟩
      · exact Or.inl ⟨v, g1, by omega, fun u hu q => g3 u hu (low u hu q), g4⟩
      · exact Or.inr ⟨fun u hu q => g1 u hu (low u hu q), g2⟩
    refine br_f (nI_ge hi (by omega)) ⟨hin, br_c (fun c => skip (fun q => ?_)) (fun c => ⟨hin, br_c (fun c2 => ?_) (fun c2 => skip (fun q => ?_))⟩)⟩
    · have := (if01 (hM.1 i hi)).mp c
      rw [q.1] at this
      cases this
    · have h1 : rn σ i := by
        refine ⟨?_, (if01 (hM.2.1 i hi)).mp c2⟩
        cases e : σ.1 i with
        | true => rfl
        | false => exact absurd ((if01 (hM.1 i hi)).mpr e) c
      have hb := hen i h1
      have below : ∀ u, rn σ u → u < i + 1 → u = i ∨ u < i := fun u hu q => by omega
      rw [hM.2.2.2.2.1 i h1.1]
      rcases hI with ⟨v, g1, g2, g3, g4⟩ | ⟨g1, g2⟩
      · have hv := hen v g1
        subst g4
        refine br_f (nI_pos (by omega)) ⟨hin, br_c (fun c z ez => ?_) (fun c => ⟨hin, fun x2 e2 z ez => ?_⟩)⟩
        · rw [ez, nI_1]
          have hle := (nI_leI (by omega) (by omega)).mp c
          refine ih _ (Or.inl ⟨v, g1, by omega, fun u hu q => ?_, rfl⟩)
          rcases below u hu q with e | e
          · rw [e]; exact hle
          · exact g3 u hu e
        · rw [ez, nI_1]
          have hle : ¬ en a σ v ≤ en a σ i := fun q => c ((nI_leI (by omega) (by omega)).mpr q)
          refine ih _ (Or.inl ⟨i, h1, by omega, fun u hu q => ?_, e2⟩)
          rcases below u hu q with e | e
          · rw [e]; exact Nat.le_refl _
          · have := g3 u hu e; omega
      · refine br_t (by rw [g2]; decide) ⟨hin, fun x2 e2 z ez => ?_⟩
        rw [ez, nI_1]
        refine ih _ (Or.inl ⟨i, h1, by omega, fun u hu q => ?_, e2⟩)
        rcases below u hu q with e | e
        · rw [e]; exact Nat.le_refl _
        · exact absurd e (g1 u hu)
    · exact c2 ((if01 (hM.2.1 i hi)).mpr q.2)
/-- ended, of those below i -/
def eS (a : An) (σ : PS) (now i : Nat) : PS := (σ.1, fun t => σ.2.1 t || (decide (t < i) && (σ.1 t && decide (en a σ t = now))), σ.2.2.1, σ.2.2.2)
def dnS (σ : PS) (t : Nat) : PS := (σ.1, fun u => if u = t then true else σ.2.1 u, σ.2.2.1, σ.2.2.2)
theorem eS_0 {a : An} {σ : PS} {now : Nat} : eS a σ now 0 = σ := by
  have : (fun t => σ.2.1 t || (decide (t < 0) && (σ.1 t && decide (en a σ t = now)))) = σ.2.1 := by
    funext t
    rw [decide_eq_false (Nat.not_lt_zero t), Bool.false_and, Bool.or_false]
  unfold eS
  rw [this]
theorem eS_n {n m B now : Nat} {a : An} {σ : PS} (hA : AI n m B σ) : eS a σ now n = endS a σ now := by
  have : (fun t => σ.2.1 t || (decide (t < n) && (σ.1 t && decide (en a σ t = now)))) = fun t => σ.2.1 t || (σ.1 t && decide (en a σ t = now)) := by
    funext t
    by_cases q : t < n
    · rw [decide_eq_true q, Bool.true_and]
    · have : σ.1 t = false := by
        cases e : σ.1 t with
        | false => rfl
        | true => exact absurd (hA.1 t e).1 q
      rw [this, Bool.false_and, Bool.and_false]
  unfold eS endS
  rw [this]
theorem eS_at {a : An} {σ : PS} {now i : Nat} : (eS a σ now i).2.1 i = σ.2.1 i := by
  show (σ.2.1 i || (decide (i < i) && _)) = _
  rw [decide_eq_false (Nat.lt_irrefl i), Bool.false_and, Bool.or_false]
theorem eS_same {a : An} {σ : PS} {now i : Nat} (h : ¬ (rn σ i ∧ en a σ i = now)) : eS a σ now (i + 1) = eS a σ now i := by
  have : (fun t => σ.2.1 t || (decide (t < i + 1) && (σ.1 t && decide (en a σ t = now)))) = fun t => σ.2.1 t || (decide (t < i) && (σ.1 t && decide (en a σ t = now))) := by
    funext t
    by_cases q : t = i
    · subst q
      rw [decide_eq_false (Nat.lt_irrefl t), decide_eq_true (Nat.lt_succ_self t), Bool.false_and, Bool.or_false, Bool.true_and]
      cases e1 : σ.2.1 t with
      | true => rfl
      | false =>
        cases e2 : σ.1 t with
        | false => rfl
        | true => rw [decide_eq_false (fun e3 => h ⟨⟨e2, e1⟩, e3⟩)]; rfl
    · have : decide (t < i + 1) = decide (t < i) := by
        rw [decide_eq_decide]; omega
      rw [this]
  unfold eS
  rw [this]
theorem eS_next {a : An} {σ : PS} {now i : Nat} (h1 : rn σ i) (h2 : en a σ i = now) : eS a σ now (i + 1) = dnS (eS a σ now i) i := by
  have : (fun t => σ.2.1 t || (decide (t < i + 1) && (σ.1 t && decide (en a σ t = now)))) = fun t => if t = i then true else σ.2.1 t || (decide (t < i) && (σ.1 t && decide (en a σ t = now))) := by
    funext t
    by_cases q : t = i
    · subst q
      rw [if_pos rfl, decide_eq_true (Nat.lt_succ_self t), decide_eq_true h2, h1.1, h1.2]
      rfl
    · have : decide (t < i + 1) = decide (t < i) := by
        rw [decide_eq_decide]; omega
      rw [this, if_neg q]
  unfold eS dnS
  rw [this]
theorem eS_AI {n m B now i : Nat} {a : An} {σ : PS} (h : AI n m B σ) : AI n m B (eS a σ now i) := by
  have old : ∀ t, rn (eS a σ now i) t → rn σ t := fun t ht => by
    refine ⟨ht.1, ?_⟩
    have := ht.2
    have this : (σ.2.1 t || _) = false := this
    exact (Bool.or_eq_false_iff.mp this).1
  refine ⟨h.1, fun t ht => ?_, fun t u ht hu e => h.2.2 t u (old t ht) (old u hu) e⟩
  have ht : (σ.2.1 t || (decide (t < i) && (σ.1 t && decide (en a σ t = now)))) = true := ht
  rw [Bool.or_eq_true, Bool.and_eq_true, Bool.and_eq_true] at ht
  rcases ht with q | q
  · exact h.2.1 t q
  · exact q.2.1
theorem rn_dn {σ : PS} {t u : Nat} : rn (dnS σ t) u ↔ u ≠ t ∧ rn σ u := by
  unfold rn
  show σ.1 u = true ∧ (if u = t then true else σ.2.1 u) = false ↔ _
  by_cases e : u = t
  · rw [if_pos e]
    exact ⟨fun q => absurd q.2 (by decide), fun q => absurd e q.1⟩
  · rw [if_neg e]
    exact ⟨fun q => ⟨e, q⟩, fun q => q.2⟩
theorem pl_dn {n m B t : Nat} {a : An} {σ : PS} {b0 w0 begins workers ends begun done busy d bu : Nat → Int32} (hA : AI n m B σ) (hM : pl_M n m a σ b0 w0 begins workers ends begun done busy) (ht : rn σ t) (ed : d = upd done t 1) (eb : bu = upd busy (σ.2.2.2 t) 0) : pl_M n m a (dnS σ t) b0 w0 begins workers ends begun d bu := by
  refine ⟨hM.1, fun u hu => ?_, hM.2.2.1, hM.2.2.2.1, hM.2.2.2.2.1, fun v hv => ?_⟩
  · show d u = if (if u = t then true else σ.2.1 u) = true then 1 else 0
    rw [ed]
    by_cases e : u = t
    · rw [e, pk_us, if_pos rfl, if_pos rfl]
    · rw [pk_un e, if_neg e]; exact hM.2.1 u hu
  · show (bu v = 1 ∧ ∃ u, rn (dnS σ t) u ∧ σ.2.2.2 u = v) ∨ (bu v = 0 ∧ ∀ u, rn (dnS σ t) u → σ.2.2.2 u ≠ v)
    rw [eb]
    by_cases e : v = σ.2.2.2 t
    · rw [e, pk_us]
      refine Or.inr ⟨rfl, fun u hu q => ?_⟩
      exact (rn_dn.mp hu).1 (hA.2.2 u t (rn_dn.mp hu).2 ht q)
    · rw [pk_un e]
      rcases hM.2.2.2.2.2 v hv with ⟨h1, u, h2, h3⟩ | ⟨h1, h2⟩
      · exact Or.inl ⟨h1, u, rn_dn.mpr ⟨fun q => e (by rw [← h3, q]), h2⟩, h3⟩
      · exact Or.inr ⟨h1, fun u hu => h2 u (rn_dn.mp hu).2⟩
theorem sp_end181 {n m B now : Nat} {a : An} {σ : PS} {b0 w0 begins workers ends begun done busy : Nat → Int32} {x1 x2 : Int32} (hn : n ≤ 60) (hm : m ≤ 8) (ok : rl_ok n a) (hA : AI n m B σ) (hB : B ≤ 100000) (hnow : now ≤ 1000000) (hM : pl_M n m a σ b0 w0 begins workers ends begun done busy) {kx : (Nat → Int32) → (Nat → Int32) → Prop} (hp : ∀ d bu, pl_M n m a (endS a σ now) b0 w0 begins workers ends begun d bu → kx d bu) : ∃ k, lp_X8_plan_181 (nI n) workers ends begun x1 x2 1 (nI now) k done busy 0 kx := by
  have hen : ∀ t, σ.1 t = true → t < n ∧ en a σ t ≤ 101000 := fun t ht => by
    have := hA.1 t ht
    have := ok.1 t this.1
    unfold en
    exact ⟨by omega, by omega⟩
  refine pk_loop (σ := (Nat → Int32) × (Nat → Int32)) (fun k i s => lp_X8_plan_181 (nI n) workers ends begun x1 x2 1 (nI now) k s.1 s.2 (nI i) kx) (fun i s => pl_M n m a (eS a σ now i) b0 w0 begins workers ends begun s.1 s.2) n 0 (done, busy) (Nat.zero_le n) (by rw [eS_0]; exact hM) ?_ ?_
  · rintro k ⟨d, bu⟩ hI
    show lp_X8_plan_181 _ _ _ _ _ _ _ _ (k + 1) d bu (nI n) _
    rw [lp_X8_plan_181]
    refine br_t (nI_le (Nat.le_refl n) (by omega)) (hp d bu ?_)
    rw [← eS_n hA]
    exact hI
  · rintro k i ⟨d, bu⟩ hi hI ih
    have hI : pl_M n m a (eS a σ now i) b0 w0 begins workers ends begun d bu := hI
    show lp_X8_plan_181 _ _ _ _ _ _ _ _ (k + 1) d bu (nI i) _
    rw [lp_X8_plan_181, nI_cl (by omega)]
    have hin : vp_in (nI i) 60 := vp_in_nI (by omega) (by omega)
    have hA2 : AI n m B (eS a σ now i) := eS_AI hA
    have skip : ¬ (rn σ i ∧ en a σ i = now) → ∀ z, z = nI i + 1 → lp_X8_plan_181 (nI n) workers ends begun x1 x2 1 (nI now) k d bu z kx := by
      intro hno z ez
      rw [ez, nI_1]
      refine ih (d, bu) ?_
      show pl_M n m a (eS a σ now (i + 1)) b0 w0 begins workers ends begun d bu
      rw [eS_same hno]
      exact hI
    have hd : d i = if σ.2.1 i = true then 1 else 0 := by
      have := hI.2.1 i hi
      rw [eS_at] at this
      exact this
    refine br_f (nI_ge hi (by omega)) (br_f (by decide) ⟨hin, br_c (fun c => skip (fun q => ?_)) (fun c => ⟨hin, br_c (fun c2 => ⟨hin, br_c (fun c3 => ⟨hin, fun d2 ed => ⟨hin, ?_⟩⟩) (fun c3 => skip (fun q => ?_))⟩) (fun c2 => skip (fun q => ?_))⟩)⟩)
    · have := (if01 (hM.1 i hi)).mp c
      rw [q.1.1] at this
      cases this
    · have h1 : rn σ i := by
        refine ⟨?_, (if01 hd).mp c2⟩
        cases e : σ.1 i with
        | true => rfl
        | false => exact absurd ((if01 (hM.1 i hi)).mpr e) c
      have h2 : en a σ i = now := by
        rw [hM.2.2.2.2.1 i h1.1] at c3
        have := hen i h1.1
        exact nI_inj (by omega) (by omega) c3
      have hwm := (hA.1 i h1.1).2.1
      have hwo : workers i = nI (σ.2.2.2 i) := by
        rw [hM.2.2.2.1 i (by omega), if_pos h1.1]
      rw [hwo, nI_cl (by omega)]
      refine ⟨vp_in_nI (by omega) (by omega), fun bu2 ebu z ez => ?_⟩
      rw [ez, nI_1]
      refine ih (d2, bu2) ?_
      show pl_M n m a (eS a σ now (i + 1)) b0 w0 begins workers ends begun d2 bu2
      rw [eS_next h1 h2]
      rw [nb1] at ed
      rw [nb0] at ebu
      exact pl_dn hA2 hI ⟨h1.1, by rw [eS_at]; exact h1.2⟩ ed ebu
    · rw [hM.2.2.2.2.1 i q.1.1, q.2] at c3
      exact c3 rfl
    · exact c2 ((if01 hd).mpr q.1.2)
theorem sp_stop181 {n : Nat} {workers ends begun done busy : Nat → Int32} {x1 x2 x4 : Int32} {kx : (Nat → Int32) → (Nat → Int32) → Prop} (h : kx done busy) : ∃ k, lp_X8_plan_181 (nI n) workers ends begun x1 x2 0 x4 k done busy 0 kx := by
  refine ⟨1, ?_⟩
  rw [lp_X8_plan_181]
  exact br_c (fun _ => h) (fun _ => br_t rfl h)
theorem sp_plan8 {n m : Nat} {a : An} {thrown size total known planSize : Int32} {all early tails begins workers ends begun done busy : Nat → Int32} (hn : n ≤ 60) (hm1 : 1 ≤ m) (hm : m ≤ 8) (ok : rl_ok n a) (hs : size = nI n) (hb : rl_blk n a all) (hc : known = 0 ∨ known = 1 ∧ ∃ (f g : Nat → Nat) (t : Nat), isEarly n a f ∧ isTail n a g ∧ isAll n a f t ∧ (∀ x, x < n → early x = nI (f x) ∧ tails x = nI (g x)) ∧ total = nI t) {post : Int32 → Int32 → Int32 → Int32 → Int32 → (Nat → Int32) → (Nat → Int32) → (Nat → Int32) → (Nat → Int32) → (Nat → Int32) → (Nat → Int32) → (Nat → Int32) → (Nat → Int32) → Prop}
    (h : ∀ k p τ e t be wo eo b d bu, (∀ x, x < n → e x = nI (Ea n a x)) → (∀ x, x < n → t x = nI (Ta n a x)) → itr (RND n a m) k (PS0, 0) p → STOP n a m p τ → (∀ i, i < 60 → be i = if τ.1 i = true then nI (τ.2.2.1 i) else begins i) → (∀ i, i < 60 → wo i = if τ.1 i = true then nI (τ.2.2.2 i) else workers i) → post (nI p.2) 0 (nI (Al n a)) 1 (nI n) e t be wo eo b d bu) : wp_X8_plan thrown size total known planSize all early tails begins workers ends begun done busy (nI m) post := by
  unfold wp_X8_plan
  refine br_f (show ¬ nI m < nI 1 from nI_nlt hm1 (by omega)) (br_t (show nI m ≤ nI 8 from nI_le hm (by omega)) (sp_findTimes8 hn ok hs hb hc (fun e t he ht => ?_)))
  subst hs
  refine sp_zero8 hn (fun b1 d1 hb1 hd1 => sp_idle8 (fun bu1 hbu1 => ?_))
  refine pk_loop (σ := ((Nat → Int32) × (Nat → Int32) × (Nat → Int32) × (Nat → Int32) × (Nat → Int32) × (Nat → Int32)) × Int32 × Int32) (fun k _ s => lp_X8_plan_85 (nI n) all t (nI m) k s.1.1 s.1.2.1 s.1.2.2.1 s.1.2.2.2.1 s.1.2.2.2.2.1 s.1.2.2.2.2.2 s.2.1 s.2.2 (fun be wo eo b d bu x2 => post x2 0 (nI (Al n a)) 1 (nI n) e t be wo eo b d bu)) (fun i s => (s.2.2 = 1 ∧ ∃ σ now, itr (RND n a m) i (PS0, 0) (σ, now) ∧ pl_M n m a σ begins workers s.1.1 s.1.2.1 s.1.2.2.1 s.1.2.2.2.1 s.1.2.2.2.2.1 s.1.2.2.2.2.2 ∧ s.2.1 = nI now) ∨ (s.2.2 = 0 ∧ post s.2.1 0 (nI (Al n a)) 1 (nI n) e t s.1.1 s.1.2.1 s.1.2.2.1 s.1.2.2.2.1 s.1.2.2.2.2.1 s.1.2.2.2.2.2)) (n + 2) 0 ((begins, workers, ends, b1, d1, bu1), 0, 1) (by omega) (Or.inl ⟨rfl, PS0, 0, rfl, ⟨fun t ht => hb1 t ht, fun t ht => hd1 t ht, fun i _ => rfl, fun i _ => rfl, fun t q => absurd q Bool.false_ne_true, fun w hw => Or.inr ⟨hbu1 w (by omega), fun t ht => absurd ht.1 Bool.false_ne_true⟩⟩, rfl⟩) ?_ ?_
  · rintro k ⟨⟨be, wo, eo, b, d, bu⟩, x2, x3⟩ hI
    rcases hI with ⟨-, σ, now, hit, -⟩ | ⟨e3, hq⟩
    · have := (plan_AI0 hn hm ok hit).2.2
      omega
    · show lp_X8_plan_85 _ _ _ _ (k + 1) be wo eo b d bu x2 x3 _
      rw [lp_X8_plan_85]
      exact br_t e3 hq
  · rintro k i ⟨⟨be, wo, eo, b, d, bu⟩, x2, x3⟩ hi hI ih
    show lp_X8_plan_85 _ _ _ _ (k + 1) be wo eo b d bu x2 x3 _
    rw [lp_X8_plan_85]
    rcases hI with ⟨e3, σ, now, hit, hM, e2⟩ | ⟨e3, hq⟩
    · have e3 : x3 = 1 := e3
      have e2 : x2 = nI now := e2
      have hM : pl_M n m a σ begins workers be wo eo b d bu := hM
      obtain ⟨hA, hnow, hin⟩ := plan_AI0 hn hm ok hit
      have hA : AI n m (1000 * i) σ := hA
      have hnow : now ≤ 1000 * i := hnow
      subst e2
      refine br_f (fun q => absurd ((show x3 = 1 from e3).symm.trans q) (by decide)) (sp_takeAll8 hn hm ok hb ht hA hnow hM (fun τ be2 wo2 eo2 b2 d2 bu2 hE hM2 => ?_))
      have hA2 : AI n m (1000 * i) τ := by
        obtain ⟨kk, h1, -⟩ := hE
        exact (itr_AI hn hm hnow hA h1).1
      refine sp_next101 hn ok hA2 (by omega) hM2 (fun r hr => ?_)
      rcases hr with ⟨u, h1, h2, h3⟩ | ⟨h1, h3⟩
      · have hu := hA2.1 u h1.1
        have hwu := ok.1 u hu.1
        have hbd : en a τ u ≤ 101000 := by unfold en; omega
        subst h3
        refine br_f (nI_pos (by omega)) (sp_end181 hn hm ok hA2 (by omega) (by omega) hM2 (fun d3 bu3 hM3 => ?_))
        exact ih ((be2, wo2, eo2, b2, d3, bu3), nI (en a τ u), 1) (Or.inl ⟨rfl, endS a τ (en a τ u), en a τ u, itr_snoc hit ⟨τ, hE, ⟨u, h1, h2, rfl⟩, rfl⟩, hM3, rfl⟩)
      · subst h3
        refine br_t (by decide) (sp_stop181 ?_)
        exact ih ((be2, wo2, eo2, b2, d2, bu2), nI now, 0) (Or.inr ⟨rfl, h i (σ, now) τ e t be2 wo2 eo2 b2 d2 bu2 he ht hit ⟨hE, h1⟩ hM2.2.2.1 hM2.2.2.2.1⟩)
    · exact br_t e3 hq
theorem pl_m {a1 : Int32} (h1 : ¬ a1 < 1) (h8 : a1 ≤ 8) : ∃ m, 1 ≤ m ∧ m ≤ 8 ∧ a1 = nI m := by
  have h0 : ¬ a1 < 0 := fun q => h1 (by
    rw [Int32.lt_iff_toInt_lt] at q ⊢
    have e0 : (0 : Int32).toInt = 0 := by decide
    have e1 : (1 : Int32).toInt = 1 := by decide
    omega)
  obtain ⟨j, hj, e⟩ := nI_of h0
  subst e
  refine ⟨j, ?_, ?_, rfl⟩
  · rcases Nat.lt_or_ge j 1 with q | q
    · exact absurd (show nI j < nI 1 from nI_lt q (by omega)) h1
    · exact q
  · exact (nI_leI (b := 8) hj (by omega)).mp h8
theorem sim_plan_ok : sim_plan Rel := by
  intro cs ms hR a1
  have hR0 := hR
  obtain ⟨n, a, hist, hn, ok, okh, hnet, ⟨hsz, hblk⟩, hpast, hcop, hbun, hwit, hplan, hcache, hmv⟩ := hR
  unfold wp_X7_plan
  by_cases c1 : a1 < 1
  · refine br_t c1 ?_
    unfold wp_X8_plan
    exact br_t c1 ⟨rfl, hR0⟩
  · refine br_f c1 ?_
    by_cases c8 : a1 ≤ 8
    · obtain ⟨m, hm1, hm, em⟩ := pl_m c1 c8
      subst em
      refine br_t c8 (sp_measure hn ok hnet (fun e t he ht => sp_make hn hm ok hnet ht (fun k p τ b d be wo ta eo hit hst hbe hwo => ?_)))
      refine sp_plan8 hn hm1 hm ok hsz hblk hcache.2 (fun k2 p2 τ2 e2 t2 be2 wo2 eo2 b2 d2 bu2 he2 ht2 hit2 hst2 hbe2 hwo2 => ?_)
      obtain ⟨ep, eτ⟩ := plan_uni hn hm hit hst hit2 hst2
      subst ep
      subst eτ
      refine ⟨rfl, n, a, hist, hn, ok, okh, hnet, ⟨hsz, hblk⟩, hpast, hcop, hbun, hwit, ?_, ⟨hcache.1, ck_ok ok he2 ht2⟩, hmv⟩
      obtain ⟨pn, -, -, -, hpl⟩ := hplan
      refine ⟨n, hn, rfl, rfl, fun i hi => ⟨?_, ?_⟩⟩
      · show be i = be2 i
        rw [hbe i hi, hbe2 i hi, (hpl i hi).1]
      · show wo i = wo2 i
        rw [hwo i hi, hwo2 i hi, (hpl i hi).2]
    · refine br_f c8 ?_
      unfold wp_X8_plan
      exact br_f c1 (br_f c8 ⟨rfl, hR0⟩)
theorem cntR_ff : ∀ k, cntR (fun _ => false) k = 0
  | 0 => rfl
  | k + 1 => by
    unfold cntR
    rw [cntR_ff k, if_neg Bool.false_ne_true]
theorem cntE_ff : ∀ k, cntE (fun _ _ => false) k = 0
  | 0 => rfl
  | k + 1 => by
    unfold cntE
    rw [cntE_ff k, cntR_ff 60]
theorem Rel_0 : Rel lw_cs0 lw_ms0 := by
  refine ⟨0, (fun _ => 0, fun _ _ => false, fun _ => 0), [], by omega, ⟨fun x hx => absurd hx (by omega), fun x y q => absurd q Bool.false_ne_true, fun x hx => absurd hx (by omega), fun x y hx => absurd hx (by omega), ?_⟩, fun h q => absurd q (by simp), ⟨nI_0.symm, ?_, fun x hx => absurd hx (by omega), fun x y _ _ => bs_zero y, fun x y _ _ => bs_zero x, fun x hx => absurd hx (by omega), fun x hx => absurd hx (by omega)⟩, ⟨nI_0.symm, fun x y _ _ => (if_neg Bool.false_ne_true).symm, fun x hx => absurd hx (by omega), fun x hx => absurd hx (by omega)⟩, ⟨by simp, nI_0.symm, 0, by omega, nI_0.symm, fun i h q => absurd q (by simp)⟩, ⟨nI_0.symm, 0, by omega, nI_0.symm, fun i h q => absurd q (by simp)⟩, ⟨0, by omega, nI_0.symm, nI_0.symm, fun i hi => absurd hi (by omega)⟩, ⟨0, by omega, nI_0.symm, nI_0.symm, fun i hi => absurd hi (by omega)⟩, ⟨0, by omega, nI_0.symm, nI_0.symm, fun i hi => ⟨rfl, rfl⟩⟩, ⟨Or.inl rfl, Or.inl rfl⟩, rfl⟩
  · show cntE (fun _ _ => false) 60 ≤ 400
    rw [cntE_ff]
    omega
  · show (0 : Int32) = nI (cntE (fun _ _ => false) 60)
    rw [cntE_ff]
    exact nI_0.symm
