/-! THE PLAN OF THE CLASS -/
def pl_C (n m : Nat) (a : An) (σ : PS) (b0 w0 : Nat → Int32) (begun done : Int64) (begin_ worker taskOf endOf : Nat → Int32) : Prop :=
  (∀ t, t < 64 → bs begun t = σ.1 t) ∧ (∀ t, t < 64 → bs done t = σ.2.1 t) ∧ (∀ i, i < 60 → begin_ i = if σ.1 i = true then nI (σ.2.2.1 i) else b0 i) ∧ (∀ i, i < 60 → worker i = if σ.1 i = true then nI (σ.2.2.2 i) else w0 i) ∧ ∀ w, w < m → (∃ t, rn σ t ∧ σ.2.2.2 t = w ∧ taskOf w = nI t ∧ endOf w = nI (en a σ t)) ∨ (freeW σ w ∧ taskOf w = -1)
theorem pl_free {n m B w : Nat} {a : An} {σ : PS} {b0 w0 : Nat → Int32} {begun done : Int64} {begin_ worker taskOf endOf : Nat → Int32} (hn : n ≤ 60) (hA : AI n m B σ) (h : pl_C n m a σ b0 w0 begun done begin_ worker taskOf endOf) (hw : w < m) : taskOf w = -1 ↔ freeW σ w := by
  rcases h.2.2.2.2 w hw with ⟨t, h1, h2, h3, h4⟩ | ⟨h1, h2⟩
  · have := (hA.1 t h1.1).1
    exact ⟨fun e => absurd (h3.symm.trans e) (nI_ne1 (by omega)), fun e => absurd h2 (e t h1)⟩
  · exact ⟨fun _ => h1, fun _ => h2⟩
theorem sp_leastFree {m : Nat} {σ : PS} {taskOf : Nat → Int32} (hm : m ≤ 8) (hf : ∀ w, w < m → (taskOf w = -1 ↔ freeW σ w)) {post : Int32 → Prop} (hp : ∀ r, isL m (freeW σ) r → post r) : wp_X5_leastFree taskOf (nI m) post := by
  unfold wp_X5_leastFree
  refine pk_loop (σ := Unit) (fun k i _ => lp_X5_leastFree_2 taskOf (nI m) post k (nI i) (post (-1))) (fun i _ => ∀ z, z < i → ¬ freeW σ z) m 0 () (Nat.zero_le m) (fun x hx => absurd hx (by omega)) ?_ ?_
  · intro k _ hI
    show lp_X5_leastFree_2 _ _ _ (k + 1) (nI m) _
    rw [lp_X5_leastFree_2]
    exact br_t (nI_le (Nat.le_refl m) (by omega)) (hp _ (Or.inr ⟨hI, rfl⟩))
  · intro k i _ hi hI ih
    show lp_X5_leastFree_2 _ _ _ (k + 1) (nI i) _
    rw [lp_X5_leastFree_2, nI_cl (by omega)]
    refine br_f (nI_ge hi (by omega)) ⟨vp_in_nI (by omega) (by omega), br_c (fun c => hp _ (Or.inl ⟨i, hi, (hf i hi).mp c, hI, rfl⟩)) (fun c z ez => ?_)⟩
    rw [ez, nI_1]
    refine ih () (fun y hy => ?_)
    by_cases e : y = i
    · rw [e]; exact fun q => c ((hf i hi).mpr q)
    · exact hI y (by omega)
theorem sp_fr52 {n i : Nat} {a : An} {R : Nat → Prop} {w2 : Nat → Int32} {r s0 : Int32} (hn : n ≤ 60) (ok : rl_ok n a) (hi : i < n) (hw : ∀ t, t < n → w2 t = nI (Ta n a t)) (h : isB i (Ta n a) R r) (hR : s0 ≠ 0 ↔ R i) {kh : Int32 → Int32 → Prop} (hk : ∀ r2, isB (i + 1) (Ta n a) R r2 → kh r2 (nI (i + 1))) : jp_X5_firstReady_52 w2 r (nI i) s0 kh := by
  unfold jp_X5_firstReady_52
  refine br_c (fun c z ez => ?_) (fun c => br_c (fun c2 z ez => ?_) (fun c2 => ?_))
  · rw [ez, nI_1]
    exact hk r (isB_f h (fun q => (hR.mpr q) c))
  · rw [ez, nI_1]
    exact hk _ (isB_1 (by omega) h c2 (hR.mp c))
  · obtain ⟨x, hx, e⟩ := isB_x h c2
    subst e
    have b1 := Ta_b ok hn hi
    have b2 := Ta_b ok hn (y := x) (by omega)
    rw [nI_cl (by omega), nI_cl (by omega), hw i hi, hw x (by omega)]
    refine ⟨vp_in_nI (by omega) (by omega), vp_in_nI (by omega) (by omega), br_c (fun c3 z ez => ?_) (fun c3 z ez => ?_)⟩
    · rw [ez, nI_1]
      exact hk _ (isB_2 (by omega) hx h ((nI_leI (by omega) (by omega)).mp c3))
    · rw [ez, nI_1]
      refine hk _ (isB_3 (by omega) hx h (hR.mp c) ?_)
      rcases Nat.lt_or_ge (Ta n a x) (Ta n a i) with q | q
      · exact q
      · exact absurd ((nI_leI (by omega) (by omega)).mpr q) c3
theorem sp_firstReady {n m : Nat} {a : An} {tasks ties : Int32} {weight : Nat → Int32} {after before : Nat → Int64} {placeOf taskAt : Nat → Int32} {σ : PS} {b0 w0 : Nat → Int32} {begun done : Int64} {begin_ worker taskOf endOf w2 : Nat → Int32} (hn : n ≤ 60) (ok : rl_ok n a) (hnet : rl_net n a tasks ties weight after before placeOf taskAt) (hC : pl_C n m a σ b0 w0 begun done begin_ worker taskOf endOf) (hw : ∀ t, t < n → w2 t = nI (Ta n a t)) {post : Int32 → Prop} (hp : ∀ r, isB n (Ta n a) (rdy a σ) r → post r) : wp_X5_firstReady (nI n) begun done before w2 post := by
  unfold wp_X5_firstReady
  refine pk_loop (σ := Int32) (fun k i s => lp_X5_firstReady_5 (nI n) begun done before w2 k s (nI i) (fun x => post x)) (fun i s => isB i (Ta n a) (rdy a σ) s) n 0 (-1) (Nat.zero_le n) (Or.inr ⟨fun x hx => absurd hx (by omega), rfl⟩) ?_ ?_
  · intro k s hI
    show lp_X5_firstReady_5 _ _ _ _ _ (k + 1) s (nI n) _
    rw [lp_X5_firstReady_5]
    exact br_t (nI_le (Nat.le_refl n) (by omega)) (hp s hI)
  · intro k i s hi hI ih
    show lp_X5_firstReady_5 _ _ _ _ _ (k + 1) s (nI i) _
    rw [lp_X5_firstReady_5, nI_cl (by omega)]
    refine br_f (nI_ge hi (by omega)) (sp_has (by omega) ?_)
    rw [hC.1 i (by omega)]
    have key : (lg_cmp (before i &&& (done ^^^ (-1))) 0 = 0) ↔ ∀ x, a.2.1 x i = true → σ.2.1 x = true := by
      rw [bs_meet]
      constructor
      · intro g x hx
        have hxn := (ok.2.1 x i hx).1
        have := g x (by omega) (by rw [hnet.2.2.2.2.1 x i (by omega) (by omega)]; exact hx)
        rw [bs_not _ (by omega), hC.2.1 x (by omega)] at this
        cases e : σ.2.1 x with
        | true => rfl
        | false => rw [e] at this; cases this
      · intro g j hj hb
        rw [hnet.2.2.2.2.1 j i hj (by omega)] at hb
        rw [bs_not _ hj, hC.2.1 j hj, g j hb]
        rfl
    cases hb : σ.1 i with
    | true =>
      refine br_f (by decide) ?_
      unfold jp_X5_firstReady_51
      exact sp_fr52 hn ok hi hw hI ⟨fun q => absurd rfl q, fun q => by rw [q.1] at hb; cases hb⟩ (fun r2 h2 => ih r2 h2)
    | false =>
      refine br_t rfl ⟨vp_in_nI (by omega) (by omega), br_c (fun c => ?_) (fun c => ?_)⟩
      · exact sp_fr52 hn ok hi hw hI ⟨fun _ => ⟨hb, key.mp c⟩, fun _ => by decide⟩ (fun r2 h2 => ih r2 h2)
      · unfold jp_X5_firstReady_51
        exact sp_fr52 hn ok hi hw hI ⟨fun q => absurd rfl q, fun q => absurd (key.mpr q.2) c⟩ (fun r2 h2 => ih r2 h2)
theorem sp_take {n m B now w t : Nat} {a : An} {σ : PS} {b0 w0 : Nat → Int32} {begun done : Int64} {begin_ worker taskOf endOf : Nat → Int32} (hn : n ≤ 60) (hm : m ≤ 8) (hwt : a.1 t ≤ 1000) (hA : AI n m B σ) (hC : pl_C n m a σ b0 w0 begun done begin_ worker taskOf endOf) (hw : w < m) (ht : t < n) (hf : freeW σ w) (hb : σ.1 t = false) {post : Int64 → Int64 → (Nat → Int32) → (Nat → Int32) → (Nat → Int32) → (Nat → Int32) → Prop} (hp : ∀ b d be wo ta eo, pl_C n m a (tkS a now σ w t) b0 w0 b d be wo ta eo → post b d be wo ta eo) : wp_X5_take begun done begin_ worker taskOf endOf (nI t) (nI w) (nI now) (nI (a.1 t)) post := by
  unfold wp_X5_take
  have hdt : σ.2.1 t = false := by
    cases e : σ.2.1 t with
    | false => rfl
    | true => have := hA.2.1 t e; rw [hb] at this; cases this
  have hix : vp_in (nI t) 60 := vp_in_nI (by omega) (by omega)
  rw [nI_cl (n := t) (by omega), nI_cl (n := w) (by omega)]
  refine ⟨hix, fun be ebe => ⟨hix, fun wo ewo => sp_bit (fun b eb => br_c (fun c => sp_bit (fun d ed => ?_)) (fun c => ⟨vp_in_nI (by omega) (by omega), fun ta eta => ⟨vp_in_nI (by omega) (by omega), fun eo eeo => ?_⟩⟩))⟩⟩
  · have hw0 : a.1 t = 0 := nI_inj (by omega) (by omega) c
    refine hp b d be wo taskOf endOf ⟨fun u hu => ?_, fun u hu => ?_, fun i hi => ?_, fun i hi => ?_, fun v hv => ?_⟩
    · rw [eb, bs_or, bs_one (by omega), tk_1, hC.1 u hu]
      by_cases e : u = t
      · rw [if_pos e, decide_eq_true e, Bool.or_true]
      · rw [if_neg e, decide_eq_false e, Bool.or_false]
    · rw [ed, bs_or, bs_one (by omega), tk_2, hC.2.1 u hu]
      by_cases e : u = t
      · rw [if_pos e, decide_eq_true e, Bool.or_true, decide_eq_true hw0]
      · rw [if_neg e, decide_eq_false e, Bool.or_false]
    · rw [ebe, tk_1, tk_3]
      by_cases e : i = t
      · rw [e, pk_us, if_pos rfl, if_pos rfl, if_pos rfl]
      · rw [pk_un e, if_neg e, if_neg e]; exact hC.2.2.1 i hi
    · rw [ewo, tk_1, tk_4]
      by_cases e : i = t
      · rw [e, pk_us, if_pos rfl, if_pos rfl, if_pos rfl]
      · rw [pk_un e, if_neg e, if_neg e]; exact hC.2.2.2.1 i hi
    · rcases hC.2.2.2.2 v hv with ⟨u, h1, h2, h3, h4⟩ | ⟨h1, h2⟩
      · have hut : u ≠ t := fun e => by have := h1.1; rw [e, hb] at this; cases this
        refine Or.inl ⟨u, rn_tk.mpr (Or.inr ⟨hut, h1⟩), ?_, h3, ?_⟩
        · rw [tk_4, if_neg hut]; exact h2
        · rw [en_tk, if_neg hut]; exact h4
      · refine Or.inr ⟨fun u hu => ?_, h2⟩
        rcases rn_tk.mp hu with ⟨-, q⟩ | ⟨q1, q2⟩
        · exact absurd hw0 q
        · rw [tk_4, if_neg q1]; exact h1 u q2
  · have hw0 : a.1 t ≠ 0 := fun e => c (by rw [e]; rfl)
    refine hp b done be wo ta eo ⟨fun u hu => ?_, fun u hu => ?_, fun i hi => ?_, fun i hi => ?_, fun v hv => ?_⟩
    · rw [eb, bs_or, bs_one (by omega), tk_1, hC.1 u hu]
      by_cases e : u = t
      · rw [if_pos e, decide_eq_true e, Bool.or_true]
      · rw [if_neg e, decide_eq_false e, Bool.or_false]
    · rw [tk_2, hC.2.1 u hu]
      by_cases e : u = t
      · rw [if_pos e, decide_eq_false hw0, e]; exact hdt
      · rw [if_neg e]
    · rw [ebe, tk_1, tk_3]
      by_cases e : i = t
      · rw [e, pk_us, if_pos rfl, if_pos rfl, if_pos rfl]
      · rw [pk_un e, if_neg e, if_neg e]; exact hC.2.2.1 i hi
    · rw [ewo, tk_1, tk_4]
      by_cases e : i = t
      · rw [e, pk_us, if_pos rfl, if_pos rfl, if_pos rfl]
      · rw [pk_un e, if_neg e, if_neg e]; exact hC.2.2.2.1 i hi
    · by_cases ev : v = w
      · refine Or.inl ⟨t, rn_tk.mpr (Or.inl ⟨rfl, hw0⟩), ?_, ?_, ?_⟩
        · rw [tk_4, if_pos rfl]; exact ev.symm
        · rw [eta, ev, pk_us]
        · rw [eeo, ev, pk_us, en_tk, if_pos rfl, nI_add]
      · rw [eta, eeo, pk_un ev, pk_un ev]
        rcases hC.2.2.2.2 v hv with ⟨u, h1, h2, h3, h4⟩ | ⟨h1, h2⟩
        · have hut : u ≠ t := fun e => by have := h1.1; rw [e, hb] at this; cases this
          refine Or.inl ⟨u, rn_tk.mpr (Or.inr ⟨hut, h1⟩), ?_, h3, ?_⟩
          · rw [tk_4, if_neg hut]; exact h2
          · rw [en_tk, if_neg hut]; exact h4
        · refine Or.inr ⟨fun u hu => ?_, h2⟩
          rcases rn_tk.mp hu with ⟨q, -⟩ | ⟨q1, q2⟩
          · rw [tk_4, if_pos q]; exact fun e => ev e.symm
          · rw [tk_4, if_neg q1]; exact h1 u q2
theorem sp_handOut {n m B now : Nat} {a : An} {tasks ties : Int32} {weight : Nat → Int32} {after before : Nat → Int64} {placeOf taskAt : Nat → Int32} {σ : PS} {b0 w0 : Nat → Int32} {begun done : Int64} {begin_ worker taskOf endOf w2 : Nat → Int32} (hn : n ≤ 60) (hm : m ≤ 8) (ok : rl_ok n a) (hnet : rl_net n a tasks ties weight after before placeOf taskAt) (hA : AI n m B σ) (hb : now ≤ B) (hC : pl_C n m a σ b0 w0 begun done begin_ worker taskOf endOf) (hw : ∀ t, t < n → w2 t = nI (Ta n a t)) {post : Int64 → Int64 → (Nat → Int32) → (Nat → Int32) → (Nat → Int32) → (Nat → Int32) → Prop} (hp : ∀ τ b d be wo ta eo, endsIn (stT n a m now) (noT n a m) σ τ → pl_C n m a τ b0 w0 b d be wo ta eo → post b d be wo ta eo) : wp_X5_handOut (nI n) begun done begin_ worker taskOf endOf weight before w2 (nI m) (nI now) post := by
  unfold wp_X5_handOut
  refine pk_loop (σ := Int64 × Int64 × (Nat → Int32) × (Nat → Int32) × (Nat → Int32) × (Nat → Int32)) (fun k i s => lp_X5_handOut_3 (nI n) weight before w2 (nI m) (nI now) post k s.1 s.2.1 s.2.2.1 s.2.2.2.1 s.2.2.2.2.1 s.2.2.2.2.2 (nI i) (fun b d be wo ta eo => post b d be wo ta eo)) (fun i s => ∃ τ, itr (stT n a m now) i σ τ ∧ pl_C n m a τ b0 w0 s.1 s.2.1 s.2.2.1 s.2.2.2.1 s.2.2.2.2.1 s.2.2.2.2.2) n 0 (begun, done, begin_, worker, taskOf, endOf) (Nat.zero_le n) ⟨σ, rfl, hC⟩ ?_ ?_
  · rintro k ⟨b, d, be, wo, ta, eo⟩ ⟨τ, hi, hC2⟩
    show lp_X5_handOut_3 _ _ _ _ _ _ _ (k + 1) b d be wo ta eo (nI n) _
    rw [lp_X5_handOut_3]
    have := (itr_AI hn hm hb hA hi).2.2
    exact br_t (nI_le (Nat.le_refl n) (by omega)) (hp τ b d be wo ta eo ⟨n, hi, noT_full (by omega)⟩ hC2)
  · rintro k i ⟨b, d, be, wo, ta, eo⟩ hi ⟨τ, hit, hC2⟩ ih
    have hC2 : pl_C n m a τ b0 w0 b d be wo ta eo := hC2
    show lp_X5_handOut_3 _ _ _ _ _ _ _ (k + 1) b d be wo ta eo (nI i) _
    rw [lp_X5_handOut_3]
    have hA2 := (itr_AI hn hm hb hA hit).1
    refine br_f (nI_ge hi (by omega)) (sp_leastFree hm (fun w hw => pl_free hn hA2 hC2 hw) (fun r hr => sp_firstReady hn ok hnet hC2 hw (fun q hq => br_c (fun c => ?_) (fun c => br_c (fun c2 => ?_) (fun c2 => ?_)))))
    · subst c
      exact hp τ b d be wo ta eo ⟨i, hit, Or.inl hr⟩ hC2
    · subst c2
      exact hp τ b d be wo ta eo ⟨i, hit, Or.inr hq⟩ hC2
    · obtain ⟨t, ht, et⟩ := isB_x hq c2
      have hex : ∃ w, w < m ∧ r = nI w := by
        rcases hr with ⟨w, h1, h2, h3, h4⟩ | ⟨h1, h2⟩
        · exact ⟨w, h1, h4⟩
        · exact absurd h2 c
      obtain ⟨w, hwm, ew⟩ := hex
      subst et ew
      have hR := isB_at hn ht hq
      refine ⟨vp_in_nI (by omega) (by omega), ?_⟩
      rw [nI_cl (by omega), hnet.2.2.1 t ht]
      refine sp_take hn hm (ok.1 t ht) hA2 hC2 hwm ht (isL_at (by omega) hwm hr) hR.1 (fun b2 d2 be2 wo2 ta2 eo2 hC3 z ez => ?_)
      rw [ez, nI_1]
      exact ih (b2, d2, be2, wo2, ta2, eo2) ⟨_, itr_snoc hit ⟨w, t, hwm, ht, hr, hq, rfl⟩, hC3⟩
theorem sp_endTasks {n m B now : Nat} {a : An} {σ : PS} {b0 w0 : Nat → Int32} {begun done : Int64} {begin_ worker taskOf endOf : Nat → Int32} (hn : n ≤ 60) (hm : m ≤ 8) (ok : rl_ok n a) (hA : AI n m B σ) (hB : B ≤ 100000) (hnow : now ≤ 100000) (hC : pl_C n m a σ b0 w0 begun done begin_ worker taskOf endOf) {post : Int64 → (Nat → Int32) → Prop} (hp : ∀ d ta, pl_C n m a (endS a σ now) b0 w0 begun d begin_ worker ta endOf → post d ta) : wp_X5_endTasks done taskOf endOf (nI now) (nI m) post := by
  unfold wp_X5_endTasks
  have hen : ∀ t, rn σ t → t < n ∧ en a σ t ≤ 101000 := fun t ht => by
    have := hA.1 t ht.1
    have := ok.1 t this.1
    unfold en
    exact ⟨by omega, by omega⟩
  refine pk_loop (σ := Int64 × (Nat → Int32)) (fun k i s => lp_X5_endTasks_2 endOf (nI now) (nI m) k s.1 s.2 (nI i) (fun d ta => post d ta)) (fun i s => (∀ t, t < 64 → (bs s.1 t = true ↔ σ.2.1 t = true ∨ (rn σ t ∧ σ.2.2.2 t < i ∧ en a σ t = now))) ∧ (∀ w, i ≤ w → s.2 w = taskOf w) ∧ ∀ w, w < i → (∃ t, rn σ t ∧ σ.2.2.2 t = w ∧ en a σ t ≠ now ∧ s.2 w = nI t ∧ endOf w = nI (en a σ t)) ∨ ((∀ t, rn σ t → σ.2.2.2 t = w → en a σ t = now) ∧ s.2 w = -1)) m 0 (done, taskOf) (Nat.zero_le m) ⟨fun t ht => ?_, fun _ _ => rfl, fun w hw => absurd hw (by omega)⟩ ?_ ?_
  · show bs done t = true ↔ _
    rw [hC.2.1 t ht]
    exact ⟨Or.inl, fun q => q.elim id (fun q => absurd q.2.1 (by omega))⟩
  · rintro k ⟨d, ta⟩ hI
    show lp_X5_endTasks_2 _ _ _ (k + 1) d ta (nI m) _
    rw [lp_X5_endTasks_2]
    refine br_t (nI_le (Nat.le_refl m) (by omega)) (hp d ta ⟨hC.1, fun t ht => ?_, hC.2.2.1, hC.2.2.2.1, fun w hw => ?_⟩)
    · rw [Bool.eq_iff_iff, hI.1 t ht]
      show _ ↔ (σ.2.1 t || (σ.1 t && decide (en a σ t = now))) = true
      rw [Bool.or_eq_true, Bool.and_eq_true, decide_eq_true_iff]
      constructor
      · rintro (q | ⟨q1, q2, q3⟩)
        · exact Or.inl q
        · exact Or.inr ⟨q1.1, q3⟩
      · rintro (q | ⟨q1, q2⟩)
        · exact Or.inl q
        · cases e : σ.2.1 t with
          | true => exact Or.inl rfl
          | false => exact Or.inr ⟨⟨q1, e⟩, (hA.1 t q1).2.1, q2⟩
    · rcases hI.2.2 w hw with ⟨t, h1, h2, h3, h4, h5⟩ | ⟨h1, h2⟩
      · exact Or.inl ⟨t, rn_end.mpr ⟨h1, h3⟩, h2, h4, h5⟩
      · exact Or.inr ⟨fun t ht e => (rn_end.mp ht).2 (h1 t (rn_end.mp ht).1 e), h2⟩
  · rintro k i ⟨d, ta⟩ hi hI ih
    show lp_X5_endTasks_2 _ _ _ (k + 1) d ta (nI i) _
    rw [lp_X5_endTasks_2, nI_cl (by omega)]
    have eta : ta i = taskOf i := hI.2.1 i (Nat.le_refl i)
    have hin : vp_in (nI i) 8 := vp_in_nI (by omega) (by omega)
    rw [eta]
    refine br_f (nI_ge hi (by omega)) ⟨hin, ?_⟩
    rcases hC.2.2.2.2 i hi with ⟨t, h1, h2, h3, h4⟩ | ⟨h1, h2⟩
    · have hb := hen t h1
      have only : ∀ u, rn σ u → σ.2.2.2 u = i → u = t := fun u hu e => hA.2.2 u t hu h1 (e.trans h2.symm)
      rw [h3, h4]
      refine br_f (nI_ne1 (by omega)) ⟨hin, br_c (fun c => ⟨hin, sp_bit (fun d2 ed2 => ⟨hin, fun ta2 eta2 z ez => ?_⟩)⟩) (fun c z ez => ?_)⟩
      · have hc : en a σ t = now := nI_inj (by omega) (by omega) c
        rw [ez, nI_1]
        refine ih (d2, ta2) ⟨fun u hu => ?_, fun w hw => ?_, fun w hw => ?_⟩
        · show bs d2 u = true ↔ _
          have hold : bs d u = true ↔ _ := hI.1 u hu
          rw [ed2, bs_or, bs_one (by omega), Bool.or_eq_true, decide_eq_true_iff, hold]
          constructor
          · rintro ((q | ⟨q1, q2, q3⟩) | q)
            · exact Or.inl q
            · exact Or.inr ⟨q1, by omega, q3⟩
            · rw [q]; exact Or.inr ⟨h1, by omega, hc⟩
          · rintro (q | ⟨q1, q2, q3⟩)
            · exact Or.inl (Or.inl q)
            · by_cases e : σ.2.2.2 u = i
              · exact Or.inr (only u q1 e)
              · exact Or.inl (Or.inr ⟨q1, by omega, q3⟩)
        · show ta2 w = _
          rw [eta2, pk_un (by omega)]; exact hI.2.1 w (by omega)
        · show (∃ t, _ ∧ _ ∧ _ ∧ ta2 w = nI t ∧ _) ∨ (_ ∧ ta2 w = -1)
          by_cases e : w = i
          · rw [eta2, e, pk_us]
            exact Or.inr ⟨fun u hu q => by rw [only u hu q]; exact hc, rfl⟩
          · rw [eta2, pk_un e]
            exact hI.2.2 w (by omega)
      · have hc : en a σ t ≠ now := fun e => c (by rw [e])
        rw [ez, nI_1]
        refine ih (d, ta) ⟨fun u hu => ?_, fun w hw => hI.2.1 w (by omega), fun w hw => ?_⟩
        · rw [hI.1 u hu]
          constructor
          · rintro (q | ⟨q1, q2, q3⟩)
            · exact Or.inl q
            · exact Or.inr ⟨q1, by omega, q3⟩
          · rintro (q | ⟨q1, q2, q3⟩)
            · exact Or.inl q
            · by_cases e : σ.2.2.2 u = i
              · rw [only u q1 e] at q3; exact absurd q3 hc
              · exact Or.inr ⟨q1, by omega, q3⟩
        · by_cases e : w = i
          · subst e
            exact Or.inl ⟨t, h1, h2, hc, eta.trans h3, h4⟩
          · exact hI.2.2 w (by omega)
    · refine br_t h2 (fun z ez => ?_)
      rw [ez, nI_1]
      refine ih (d, ta) ⟨fun u hu => ?_, fun w hw => hI.2.1 w (by omega), fun w hw => ?_⟩
      · rw [hI.1 u hu]
        constructor
        · rintro (q | ⟨q1, q2, q3⟩)
          · exact Or.inl q
          · exact Or.inr ⟨q1, by omega, q3⟩
        · rintro (q | ⟨q1, q2, q3⟩)
          · exact Or.inl q
          · have := h1 u q1
            exact Or.inr ⟨q1, by omega, q3⟩
      · by_cases e : w = i
        · subst e
          exact Or.inr ⟨fun u hu q => absurd q (h1 u hu), eta.trans h2⟩
        · exact hI.2.2 w (by omega)
def nxR (a : An) (σ : PS) (r : Int32) : Prop := (∃ t, rn σ t ∧ (∀ u, rn σ u → en a σ t ≤ en a σ u) ∧ r = nI (en a σ t)) ∨ ((∀ t, ¬ rn σ t) ∧ r = -1)
theorem sp_nextEnd {n m B : Nat} {a : An} {σ : PS} {b0 w0 : Nat → Int32} {begun done : Int64} {begin_ worker taskOf endOf : Nat → Int32} (hn : n ≤ 60) (hm : m ≤ 8) (ok : rl_ok n a) (hA : AI n m B σ) (hB : B ≤ 100000) (hC : pl_C n m a σ b0 w0 begun done begin_ worker taskOf endOf) {post : Int32 → Prop} (hp : ∀ r, nxR a σ r → post r) : wp_X5_nextEnd taskOf endOf (nI m) post := by
  unfold wp_X5_nextEnd
  have hen : ∀ t, rn σ t → t < n ∧ en a σ t ≤ 101000 := fun t ht => by
    have := hA.1 t ht.1
    have := ok.1 t this.1
    unfold en
    exact ⟨by omega, by omega⟩
  refine pk_loop (σ := Int32) (fun k i s => lp_X5_nextEnd_4 taskOf endOf (nI m) k s (nI i) (fun x => post x)) (fun i s => (∃ t, rn σ t ∧ σ.2.2.2 t < i ∧ (∀ u, rn σ u → σ.2.2.2 u < i → en a σ t ≤ en a σ u) ∧ s = nI (en a σ t)) ∨ ((∀ t, rn σ t → ¬ σ.2.2.2 t < i) ∧ s = -1)) m 0 (-1) (Nat.zero_le m) (Or.inr ⟨fun t _ => by omega, rfl⟩) ?_ ?_
  · intro k s hI
    show lp_X5_nextEnd_4 _ _ _ (k + 1) s (nI m) _
    rw [lp_X5_nextEnd_4]
    refine br_t (nI_le (Nat.le_refl m) (by omega)) (hp s ?_)
    rcases hI with ⟨t, h1, h2, h3, h4⟩ | ⟨h1, h2⟩
    · exact Or.inl ⟨t, h1, fun u hu => h3 u hu (hA.1 u hu.1).2.1, h4⟩
    · exact Or.inr ⟨fun t ht => h1 t ht (hA.1 t ht.1).2.1, h2⟩
  · intro k i s hi hI ih
    show lp_X5_nextEnd_4 _ _ _ (k + 1) s (nI i) _
    rw [lp_X5_nextEnd_4, nI_cl (by omega)]
    have hin : vp_in (nI i) 8 := vp_in_nI (by omega) (by omega)
    refine br_f (nI_ge hi (by omega)) ⟨hin, ?_⟩
    rcases hC.2.2.2.2 i hi with ⟨t, h1, h2, h3, h4⟩ | ⟨h1, h2⟩
    · have hb := hen t h1
      have only : ∀ u, rn σ u → σ.2.2.2 u = i → u = t := fun u hu e => hA.2.2 u t hu h1 (e.trans h2.symm)
      have below : ∀ u, rn σ u → σ.2.2.2 u < i + 1 → u = t ∨ σ.2.2.2 u < i := fun u hu q => by
        by_cases e : σ.2.2.2 u = i
        · exact Or.inl (only u hu e)
        · exact Or.inr (by omega)
      rw [h3, h4]
      refine br_f (nI_ne1 (by omega)) ?_
      rcases hI with ⟨v, g1, g2, g3, g4⟩ | ⟨g1, g2⟩
      · have hv := hen v g1
        subst g4
        refine br_f (nI_m1 (by omega)) ⟨hin, br_c (fun c z ez => ?_) (fun c => ⟨hin, fun x2 e2 z ez => ?_⟩)⟩
        · rw [ez, nI_1]
          have hle := (nI_leI (by omega) (by omega)).mp c
          refine ih _ (Or.inl ⟨v, g1, by omega, fun u hu q => ?_, rfl⟩)
          rcases below u hu q with e | e
          · rw [e]; exact hle
          · exact g3 u hu e
        · rw [ez, nI_1]
          have hle : ¬ en a σ v ≤ en a σ t := fun q => c ((nI_leI (by omega) (by omega)).mpr q)
          refine ih _ (Or.inl ⟨t, h1, by omega, fun u hu q => ?_, e2⟩)
          rcases below u hu q with e | e
          · rw [e]; exact Nat.le_refl _
          · have := g3 u hu e; omega
      · refine br_t g2 ⟨hin, fun x2 e2 z ez => ?_⟩
        rw [ez, nI_1]
        refine ih _ (Or.inl ⟨t, h1, by omega, fun u hu q => ?_, e2⟩)
        rcases below u hu q with e | e
        · rw [e]; exact Nat.le_refl _
        · exact absurd e (g1 u hu)
    · refine br_t h2 (fun z ez => ?_)
      rw [ez, nI_1]
      refine ih s ?_
      have low : ∀ u, rn σ u → σ.2.2.2 u < i + 1 → σ.2.2.2 u < i := fun u hu q => by
        have := h1 u hu
        omega
      rcases hI with ⟨v, g1, g2, g3, g4⟩ | ⟨g1, g2⟩
      · exact Or.inl ⟨v, g1, by omega, fun u hu q => g3 u hu (low u hu q), g4⟩
      · exact Or.inr ⟨fun u hu q => g1 u hu (low u hu q), g2⟩
theorem end_0 {a : An} : endS a PS0 0 = PS0 := rfl
theorem sp_make {n m : Nat} {a : An} {tasks ties : Int32} {weight : Nat → Int32} {after before : Nat → Int64} {placeOf taskAt : Nat → Int32} {t0 : Int32} {begun done : Int64} {begin_ worker taskOf endOf w2 : Nat → Int32} (hn : n ≤ 60) (hm : m ≤ 8) (ok : rl_ok n a) (hnet : rl_net n a tasks ties weight after before placeOf taskAt) (hw : ∀ t, t < n → w2 t = nI (Ta n a t)) {post : Int32 → Int32 → Int64 → Int64 → (Nat → Int32) → (Nat → Int32) → (Nat → Int32) → (Nat → Int32) → Prop}
    (hp : ∀ k p τ b d be wo ta eo, itr (RND n a m) k (PS0, 0) p → STOP n a m p τ → (∀ i, i < 60 → be i = if τ.1 i = true then nI (τ.2.2.1 i) else begin_ i) → (∀ i, i < 60 → wo i = if τ.1 i = true then nI (τ.2.2.2 i) else worker i) → post (nI p.2) (nI n) b d be wo ta eo) : wp_X5_make t0 begun done begin_ worker taskOf endOf tasks weight before w2 (nI m) post := by
  have hs := hnet.1
  subst hs
  unfold wp_X5_make
  refine sp_fill (by omega) (fun g hg => ?_)
  refine pk_loop (σ := (Int64 × Int64 × (Nat → Int32) × (Nat → Int32) × (Nat → Int32) × (Nat → Int32)) × Int32) (fun k i s => lp_X5_make_32 (nI n) weight before w2 (nI m) k s.1.1 s.1.2.1 s.1.2.2.1 s.1.2.2.2.1 s.1.2.2.2.2.1 s.1.2.2.2.2.2 s.2 (nI i) (fun b d be wo ta eo x4 => post x4 (nI n) b d be wo ta eo)) (fun i s => ∃ τ now, itr (RND n a m) i (PS0, 0) (endS a τ now, now) ∧ AI n m (1000 * i) τ ∧ pl_C n m a τ begin_ worker s.1.1 s.1.2.1 s.1.2.2.1 s.1.2.2.2.1 s.1.2.2.2.2.1 s.1.2.2.2.2.2 ∧ s.2 = nI now) (n + 1) 0 ((0, 0, begin_, worker, g, endOf), 0) (by omega) ⟨PS0, 0, by rw [end_0]; rfl, AI_0, ⟨fun t _ => bs_zero t, fun t _ => bs_zero t, fun i _ => rfl, fun i _ => rfl, fun w hw => Or.inr ⟨fun t ht => absurd ht.1 Bool.false_ne_true, hg w (by omega)⟩⟩, rfl⟩ ?_ ?_
  · rintro k ⟨⟨b, d, be, wo, ta, eo⟩, x4⟩ ⟨τ, now, hit, -⟩
    have := (plan_AI0 hn hm ok hit).2.2
    omega
  · rintro k i ⟨⟨b, d, be, wo, ta, eo⟩, x4⟩ hi ⟨τ, now, hit, hA, hC, e4⟩ ih
    have e4 : x4 = nI now := e4
    have hC : pl_C n m a τ begin_ worker b d be wo ta eo := hC
    subst e4
    show lp_X5_make_32 _ _ _ _ _ (k + 1) b d be wo ta eo (nI now) (nI i) _
    rw [lp_X5_make_32]
    have hq := plan_AI0 hn hm ok hit
    have hnow : now ≤ 1000 * i := hq.2.1
    refine br_f (nI_nlt (by omega) (by omega)) (sp_endTasks hn hm ok hA (by omega) (by omega) hC (fun d2 ta2 hC2 => sp_handOut hn hm ok hnet hq.1 hnow hC2 hw (fun τ2 b3 d3 be3 wo3 ta3 eo3 hE hC3 => ?_)))
    have hA3 : AI n m (1000 * i) τ2 := by
      obtain ⟨kk, h1, -⟩ := hE
      exact (itr_AI hn hm hnow hq.1 h1).1
    refine sp_nextEnd hn hm ok hA3 (by omega) hC3 (fun r hr => br_c (fun c => ?_) (fun c z ez => ?_))
    · rcases hr with ⟨t, h1, h2, h3⟩ | ⟨h1, -⟩
      · have := hA3.1 t h1.1
        have := ok.1 t this.1
        refine absurd (h3.symm.trans c) (nI_m1 ?_)
        unfold en
        omega
      · exact hp i (endS a τ now, now) τ2 b3 d3 be3 wo3 ta3 eo3 hit ⟨hE, h1⟩ hC3.2.2.1 hC3.2.2.2.1
    · rcases hr with ⟨t, h1, h2, h3⟩ | ⟨-, h1⟩
      · rw [ez, nI_1]
        refine ih ((b3, d3, be3, wo3, ta3, eo3), r) ⟨τ2, en a τ2 t, itr_snoc hit ⟨τ2, hE, ⟨t, h1, h2, rfl⟩, rfl⟩, AI_mono hA3 (by omega), hC3, h3⟩
      · exact absurd h1 c
