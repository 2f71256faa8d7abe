theorem sp_reaching {n x f : Nat} {a : An} {tasks ties : Int32} {weight : Nat → Int32} {after before : Nat → Int64} {placeOf taskAt : Nat → Int32} (hn : n ≤ 60) (ok : rl_ok n a) (h : rl_net n a tasks ties weight after before placeOf taskAt) (hx : x < n) (hf : f ≤ a.2.2 x) {post : Int64 → Prop}
    (hp : ∀ r, (∀ z, z < 64 → (bs r z = true ↔ z = x ∨ (z < n ∧ f ≤ a.2.2 z ∧ ∃ k, rk a.2.1 (k + 1) z x))) → post r) : wp_X2_reaching after placeOf taskAt (nI x) (nI f) post := by
  unfold wp_X2_reaching
  have hpx := ok.2.2.1 x hx
  refine sp_bit ⟨vp_in_nI (by omega) (by omega), fun x5 e5 => ?_⟩
  rw [nI_cl (by omega), h.2.2.2.2.2.1 x hx] at e5
  subst e5
  refine ⟨a.2.2 x + 1, pk_loopD (σ := Int64) (fun k i s => lp_X2_reaching_15 after taskAt (nI f) k s (nI i - 1) (fun x3 => post x3)) (fun i s => i ≤ a.2.2 x ∧ ∀ z, z < 64 → (bs s z = true ↔ z = x ∨ (z < n ∧ i ≤ a.2.2 z ∧ f ≤ a.2.2 z ∧ ∃ k, rk a.2.1 (k + 1) z x))) ?_ ?_ (a.2.2 x) (gb_shl 1 (nI x)) ⟨Nat.le_refl _, fun z hz => ?_⟩⟩
  · intro k s hI
    show lp_X2_reaching_15 _ _ _ (k + 1) s (nI 0 - 1) _
    rw [lp_X2_reaching_15]
    refine br_t ?_ (hp s (fun z hz => ?_))
    · rw [Int32.lt_iff_toInt_lt, nI_toInt (by omega), show (nI 0 - 1 : Int32).toInt = -1 from by decide]; omega
    · rw [hI.2 z hz]
      constructor
      · rintro (q | ⟨q1, -, q3, q4⟩)
        · exact Or.inl q
        · exact Or.inr ⟨q1, q3, q4⟩
      · rintro (q | ⟨q1, q3, q4⟩)
        · exact Or.inl q
        · exact Or.inr ⟨q1, Nat.zero_le _, q3, q4⟩
  · intro k i s hI ih
    show lp_X2_reaching_15 _ _ _ (k + 1) s (nI (i + 1) - 1) _
    rw [lp_X2_reaching_15, nI_pred]
    have hi : i < n := by have := hI.1; omega
    by_cases q : i < f
    · refine br_t (nI_lt q (by omega)) (hp s (fun z hz => ?_))
      rw [hI.2 z hz]
      constructor
      · rintro (q | ⟨q1, -, q3, q4⟩)
        · exact Or.inl q
        · exact Or.inr ⟨q1, q3, q4⟩
      · rintro (q | ⟨q1, q3, q4⟩)
        · exact Or.inl q
        · exact Or.inr ⟨q1, by omega, q3, q4⟩
    · obtain ⟨t, ht, et⟩ := rl_surj ok hi
      refine br_f (nI_nlt (by omega) (by omega)) ⟨vp_in_nI (by omega) (by omega), fun x6 e6 => ?_⟩
      have e9 : x6 = nI t := by rw [e6, nI_cl (by omega), ← et]; exact h.2.2.2.2.2.2 t ht
      subst e9
      have ecl : (nI t).toNatClampNeg = t := nI_cl (by omega)
      have hxt : x ≠ t := fun e => by have := hI.1; rw [e] at this; omega
      rw [ecl]
      have key : (lg_cmp (after t &&& s) 0 = 0) ↔ ¬ ∃ k, rk a.2.1 (k + 1) t x := by
        rw [bs_meet]
        constructor
        · rintro g ⟨kk, v, e1, e2⟩
          have hv := ok.2.1 t v e1
          have := g v (by omega) (by rw [h.2.2.2.1 t v (by omega) (by omega)]; exact e1)
          have hbv : bs s v = true := by
            rw [hI.2 v (by omega)]
            cases kk with
            | zero => exact Or.inl e2
            | succ kk => exact Or.inr ⟨hv.2.1, by omega, by omega, kk, e2⟩
          rw [this] at hbv; cases hbv
        · intro g j hj hb
          rw [h.2.2.2.1 t j (by omega) hj] at hb
          cases hs : bs s j with
          | false => rfl
          | true =>
            exfalso
            apply g
            rcases (hI.2 j hj).mp hs with r | ⟨-, -, -, kk, r⟩
            · exact ⟨0, j, hb, r⟩
            · exact ⟨kk + 1, j, hb, r⟩
      refine ⟨vp_in_nI (by omega) (by omega), br_c (fun c y ey => ?_) (fun c => sp_bit (fun s2 es2 y ey => ?_))⟩
      · rw [ey, i32_m1]
        refine ih s ⟨by have := hI.1; omega, fun z hz => ?_⟩
        rw [hI.2 z hz]
        constructor
        · rintro (q | ⟨q1, q2, q3, q4⟩)
          · exact Or.inl q
          · exact Or.inr ⟨q1, by omega, q3, q4⟩
        · rintro (q | ⟨q1, q2, q3, q4⟩)
          · exact Or.inl q
          · have : a.2.2 z ≠ i := fun r => by
              have : z = t := ok.2.2.2.1 z t q1 ht (by omega)
              subst this
              exact (key.mp c) q4
            exact Or.inr ⟨q1, by omega, q3, q4⟩
      · rw [ey, i32_m1]
        refine ih s2 ⟨by have := hI.1; omega, fun z hz => ?_⟩
        have hex : ∃ k, rk a.2.1 (k + 1) t x := Classical.byContradiction (fun r => c (key.mpr r))
        rw [es2, bs_or, bs_one (by omega)]
        by_cases hzt : z = t
        · subst hzt
          simp only [decide_true, Bool.or_true, true_iff]
          exact Or.inr ⟨ht, by omega, by omega, hex⟩
        · rw [show decide (z = t) = false from decide_eq_false hzt, Bool.or_false, hI.2 z hz]
          constructor
          · rintro (q | ⟨q1, q2, q3, q4⟩)
            · exact Or.inl q
            · exact Or.inr ⟨q1, by omega, q3, q4⟩
          · rintro (q | ⟨q1, q2, q3, q4⟩)
            · exact Or.inl q
            · have : a.2.2 z ≠ i := fun r => hzt (ok.2.2.2.1 z t q1 ht (by omega))
              exact Or.inr ⟨q1, by omega, q3, q4⟩
  · rw [bs_one (by omega)]
    constructor
    · intro q; exact Or.inl (of_decide_eq_true q)
    · rintro (q | ⟨q1, q2, q3, k, q4⟩)
      · exact decide_eq_true q
      · have := (rk_pl ok q4).2.2; omega
theorem sp_line {n lo hi L0 : Nat} {pl at_ : Nat → Nat} {S : Nat → Bool} {set : Int64} {taskAt row0 : Nat → Int32} (hn : n ≤ 60) (hpl : ∀ t, t < n → pl t < n ∧ at_ (pl t) = t) (hat : ∀ p, p < n → at_ p < n ∧ pl (at_ p) = p) (hset : ∀ t, t < n → bs set t = S t) (hrng : ∀ t, S t = true → t < n ∧ lo ≤ pl t ∧ pl t ≤ hi) (hlo : lo ≤ hi) (hhi : hi < n) (hta : ∀ p, p < n → taskAt p = nI (at_ p)) (hL : L0 + cntR (mw_S at_ S) n ≤ 60) {post : Int32 → (Nat → Int32) → Prop}
    (hp : ∀ row, (∀ j, j < L0 → row j = row0 j) → (∀ t, S t = true → row (L0 + cntR (mw_S at_ S) (pl t)) = nI t) → post (nI (L0 + cntR (mw_S at_ S) n)) row) : wp_X1_line (nI L0) row0 taskAt set (nI lo) (nI hi) post := by
  unfold wp_X1_line
  have hout : ∀ q, q < n → S (at_ q) = true → lo ≤ q ∧ q ≤ hi := fun q hq g => by have := (hrng _ g).2; rw [(hat q hq).2] at this; exact this
  have hnot : ∀ q, q < n → ¬ (lo ≤ q ∧ q ≤ hi) → mw_S at_ S q = false := fun q hq g => by
    cases hs : S (at_ q) with
    | false => exact hs
    | true => exact absurd (hout q hq hs) g
  have e0 : cntR (mw_S at_ S) lo = 0 := cw_none (i := 0) (Nat.zero_le lo) (fun q _ h2 => hnot q (by omega) (by omega))
  have e1 : cntR (mw_S at_ S) n = cntR (mw_S at_ S) (hi + 1) := cw_none (by omega) (fun q h1 h2 => hnot q h2 (by omega))
  have go : ∃ k, lp_X1_line_4 taskAt set (nI hi) k (nI (L0 + cntR (mw_S at_ S) lo)) row0 (nI lo) (fun l r => post l r) := by
    refine pk_loop (σ := Nat → Int32) (fun k i row => lp_X1_line_4 taskAt set (nI hi) k (nI (L0 + cntR (mw_S at_ S) i)) row (nI i) (fun l r => post l r)) (fun i row => (∀ j, j < L0 → row j = row0 j) ∧ ∀ t, S t = true → pl t < i → row (L0 + cntR (mw_S at_ S) (pl t)) = nI t) (hi + 1) lo row0 (by omega) ⟨fun _ _ => rfl, fun t ht q => absurd (hrng t ht).2.1 (by omega)⟩ ?_ ?_
    · intro k row hI
      show lp_X1_line_4 _ _ _ (k + 1) _ row (nI (hi + 1)) _
      rw [lp_X1_line_4, ← e1]
      exact br_t (nI_lt (by omega) (by omega)) (hp row hI.1 (fun t ht => hI.2 t ht (by have := (hrng t ht).2.2; omega)))
    · intro k i row hi2 hI ih
      show lp_X1_line_4 _ _ _ (k + 1) _ row (nI i) _
      rw [lp_X1_line_4]
      have hat2 := hat i (by omega)
      refine br_f (nI_nlt (by omega) (by omega)) ⟨vp_in_nI (by omega) (by omega), ?_⟩
      rw [nI_cl (by omega), hta i (by omega)]
      refine sp_has (by omega) ?_
      rw [hset _ hat2.1]
      cases hs : S (at_ i) with
      | false =>
        refine br_t rfl (fun y ey => ?_)
        rw [ey, nI_1]
        have := ih row ⟨hI.1, fun t ht q => hI.2 t ht (by
          have : pl t ≠ i := fun r => by rw [← r, (hpl t (hrng t ht).1).2] at hs; rw [hs] at ht; cases ht
          omega)⟩
        rw [cntR_f (f := mw_S at_ S) hs] at this
        exact this
      | true =>
        have hc : cntR (mw_S at_ S) i < cntR (mw_S at_ S) n := cw_lt (by omega) hs
        refine br_f (by decide) ⟨vp_in_nI (by omega) (by omega), vp_in_nI (by omega) (by omega), fun r er l el y ey => ?_⟩
        rw [ey, nI_1, el, nI_1]
        rw [nI_cl (by omega)] at er
        have := ih r ⟨fun j hj => by rw [er, pk_un (by omega)]; exact hI.1 j hj, fun t ht q => ?_⟩
        · rw [cntR_t (f := mw_S at_ S) hs, ← Nat.add_assoc] at this
          exact this
        · rw [er]
          by_cases c : pl t = i
          · rw [c, pk_us, ← c, (hpl t (hrng t ht).1).2]
          · have : cntR (mw_S at_ S) (pl t) < cntR (mw_S at_ S) i := cw_lt (by omega) (by show S (at_ (pl t)) = true; rw [(hpl t (hrng t ht).1).2]; exact ht)
            rw [pk_un (by omega)]
            exact hI.2 t ht (by omega)
  rw [e0] at go
  exact go
theorem sp_deal {n lo hi : Nat} {pl at_ : Nat → Nat} {A B : Nat → Bool} {pl' : Nat → Nat} {set : Int64} {placeOf taskAt row : Nat → Int32} (hn : n ≤ 60) (C : mw_C n lo hi pl at_ A B) (P : mw_P n pl at_ A B pl') (hset : ∀ t, t < n → (bs set t = true ↔ A t = true ∨ B t = true)) (hlo : lo ≤ hi) (hpo : ∀ t, t < n → placeOf t = nI (pl t)) (hta : ∀ p, p < n → taskAt p = nI (at_ p)) (hrow : ∀ t, A t = true ∨ B t = true → row (mw_i n pl at_ A B t) = nI t) {post : (Nat → Int32) → (Nat → Int32) → Prop}
    (hp : ∀ po ta, (∀ t, t < n → po t = nI (pl' t)) → (∀ t, t < n → ta (pl' t) = nI t) → post po ta) : wp_X1_deal (nI (cntR (mw_M at_ A B) n)) row placeOf taskAt set (nI lo) (nI hi) post := by
  unfold wp_X1_deal
  have hhi := C.2.2.2.2
  have hcn : cntR (mw_M at_ A B) n ≤ n := cw_all _ n
  have hout : ∀ q, q < n → mw_M at_ A B q = true → lo ≤ q ∧ q ≤ hi := fun q hq g => by
    have := (C.2.2.2.1 _ (mw_Mt.mp g)).2
    rw [(C.2.1 q hq).2] at this
    exact this
  have e0 : cntR (mw_M at_ A B) lo = 0 := cw_none (i := 0) (Nat.zero_le lo) (fun q _ h2 => by
    cases hs : mw_M at_ A B q with
    | false => rfl
    | true => have := hout q (by omega) hs; omega)
  have fin : ∀ (i : Nat) (po ta : Nat → Int32), (∀ t, t < n → po t = nI (if (A t = true ∨ B t = true) ∧ pl' t < i then pl' t else pl t)) → (∀ t, t < n → pl' t < i → ta (pl' t) = nI t) → (∀ q, i ≤ q → q < n → ta q = nI (at_ q)) → (∀ q, i ≤ q → q < n → mw_M at_ A B q = false) → post po ta := by
    intro i po ta h1 h2 h3 h4
    refine hp po ta (fun t ht => ?_) (fun t ht => ?_)
    · rw [h1 t ht]
      rcases mw_cases A B t with q | q
      · have hmk := mw_mk C P q
        have : pl' t < i := by
          rcases Nat.lt_or_ge (pl' t) i with r | r
          · exact r
          · rw [h4 _ r hmk.1] at hmk; cases hmk.2
        rw [if_pos ⟨q, this⟩]
      · rw [if_neg (fun g => by rw [q.1, q.2] at g; rcases g.1 with r | r <;> cases r), (P t ht).1 q.1 q.2]
    · rcases Nat.lt_or_ge (pl' t) i with r | r
      · exact h2 t ht r
      · rcases mw_cases A B t with q | q
        · have hmk := mw_mk C P q
          rw [h4 _ r hmk.1] at hmk; cases hmk.2
        · have e := (P t ht).1 q.1 q.2
          rw [h3 _ r (mw_lt C P ht), e, (C.1 t ht).2]
  have go : ∃ k, lp_X1_deal_7 (nI (cntR (mw_M at_ A B) n)) row set (nI hi) k placeOf taskAt (nI (cntR (mw_M at_ A B) lo)) (nI lo) (fun po ta => post po ta) := by
    refine pk_loop (σ := (Nat → Int32) × (Nat → Int32)) (fun k i s => lp_X1_deal_7 (nI (cntR (mw_M at_ A B) n)) row set (nI hi) k s.1 s.2 (nI (cntR (mw_M at_ A B) i)) (nI i) (fun po ta => post po ta)) (fun i s => lo ≤ i ∧ (∀ t, t < n → s.1 t = nI (if (A t = true ∨ B t = true) ∧ pl' t < i then pl' t else pl t)) ∧ (∀ t, t < n → pl' t < i → s.2 (pl' t) = nI t) ∧ (∀ q, i ≤ q → q < n → s.2 q = nI (at_ q))) (hi + 1) lo (placeOf, taskAt) (by omega) ⟨Nat.le_refl lo, fun t ht => ?_, fun t ht q => ?_, fun q _ hq => hta q hq⟩ ?_ ?_
    · show placeOf t = _
      rw [hpo t ht, if_neg]
      rintro ⟨q1, q2⟩
      have := (mw_bt C P q1).1
      omega
    · show taskAt (pl' t) = _
      rcases mw_cases A B t with r | r
      · have := (mw_bt C P r).1; omega
      · rw [(P t ht).1 r.1 r.2, hta _ (C.1 t ht).1, (C.1 t ht).2]
    · intro k s hI
      show lp_X1_deal_7 _ _ _ _ (k + 1) s.1 s.2 _ (nI (hi + 1)) _
      rw [lp_X1_deal_7]
      refine br_t (nI_lt (by omega) (by omega)) (fin (hi + 1) s.1 s.2 hI.2.1 hI.2.2.1 hI.2.2.2 (fun q h1 h2 => ?_))
      cases hs : mw_M at_ A B q with
      | false => rfl
      | true => have := hout q h2 hs; omega
    · intro k i s hi2 hI ih
      show lp_X1_deal_7 _ _ _ _ (k + 1) s.1 s.2 _ (nI i) _
      rw [lp_X1_deal_7]
      have hin : i < n := by omega
      have hci : cntR (mw_M at_ A B) i ≤ i := cw_all _ i
      refine br_f (nI_nlt (by omega) (by omega)) (br_c (fun c => ?_) (fun c => ?_))
      · refine fin i s.1 s.2 hI.2.1 hI.2.2.1 hI.2.2.2 (fun q h1 h2 => ?_)
        cases hs : mw_M at_ A B q with
        | false => rfl
        | true =>
          have r1 := cw_lt h2 hs
          have r2 := @cw_le (mw_M at_ A B) i q h1
          exact absurd c (nI_ge (by omega) (by omega))
      · have hat2 := C.2.1 i hin
        refine ⟨vp_in_nI (by omega) (by omega), ?_⟩
        rw [nI_cl (by omega), hI.2.2.2 i (Nat.le_refl i) hin]
        refine sp_has (by omega) ?_
        by_cases hM : mw_M at_ A B i = true
        · rw [if_pos ((hset _ hat2.1).mpr (mw_Mt.mp hM))]
          obtain ⟨t, ht, hAB, et, ei⟩ := mw_who C P hin hM
          refine br_f (by decide) ⟨vp_in_nI (by omega) (by omega), fun x8 e8 => ?_⟩
          have e9 : x8 = nI t := by rw [e8, nI_cl (by omega), ← ei]; exact hrow t hAB
          subst e9
          refine ⟨vp_in_nI (by omega) (by omega), fun ta eta => ⟨vp_in_nI (by omega) (by omega), fun po epo z6 ez6 z7 ez7 => ?_⟩⟩
          rw [ez6, nI_1, ez7, nI_1]
          rw [nI_cl (by omega)] at epo
          have := ih (po, ta) ⟨by omega, fun u hu => ?_, fun u hu q => ?_, fun q h1 h2 => ?_⟩
          · rw [cntR_t hM] at this
            exact this
          · show po u = _
            rw [epo]
            by_cases e : u = t
            · subst e
              rw [pk_us, if_pos ⟨hAB, by omega⟩, et]
            · rw [pk_un e, hI.2.1 u hu]
              have hne : pl' u ≠ i := fun r => e (mw_inj C P hu ht (by omega))
              by_cases r : (A u = true ∨ B u = true) ∧ pl' u < i
              · rw [if_pos r, if_pos ⟨r.1, by omega⟩]
              · rw [if_neg r, if_neg (fun g => r ⟨g.1, by omega⟩)]
          · show ta (pl' u) = _
            rw [eta]
            by_cases e : u = t
            · subst e
              rw [et, pk_us]
            · have hne : pl' u ≠ i := fun r => e (mw_inj C P hu ht (by omega))
              rw [pk_un hne]
              exact hI.2.2.1 u hu (by omega)
          · show ta q = _
            rw [eta, pk_un (by omega)]
            exact hI.2.2.2 q (by omega) h2
        · have hM0 : mw_M at_ A B i = false := by
            cases hs : mw_M at_ A B i with
            | false => rfl
            | true => exact absurd hs hM
          rw [if_neg (fun g => hM (mw_Mt.mpr ((hset _ hat2.1).mp g)))]
          refine br_t rfl (fun y ey => ?_)
          rw [ey, nI_1]
          have := ih s ⟨by omega, fun u hu => ?_, fun u hu q => ?_, fun q h1 h2 => hI.2.2.2 q (by omega) h2⟩
          · rw [cntR_f hM0] at this
            exact this
          · rw [hI.2.1 u hu]
            by_cases r : (A u = true ∨ B u = true) ∧ pl' u < i
            · rw [if_pos r, if_pos ⟨r.1, by omega⟩]
            · rw [if_neg r, if_neg]
              rintro ⟨g1, g2⟩
              have : pl' u ≠ i := fun e => by have := (mw_mk C P g1).2; rw [e] at this; exact hM this
              exact r ⟨g1, by omega⟩
          · by_cases r : pl' u < i
            · exact hI.2.2.1 u hu r
            · have e : pl' u = i := by omega
              rcases mw_cases A B u with g | g
              · have := (mw_mk C P g).2; rw [e] at this; exact absurd this hM
              · have e2 := (P u hu).1 g.1 g.2
                rw [hI.2.2.2 _ (by omega) (mw_lt C P hu), e2, (C.1 u hu).2]
  rw [e0] at go
  exact go
theorem sp_mend {n x y : Nat} {a : An} {tasks ties : Int32} {weight : Nat → Int32} {after before : Nat → Int64} {placeOf taskAt : Nat → Int32} (hn : n ≤ 60) (ok : rl_ok n a) (h : rl_net n a tasks ties weight after before placeOf taskAt) (hx : x < n) (hy : y < n) (hr : ¬ Rch a.2.1 y x) {len : Int32} {row : Nat → Int32} {post : Int32 → (Nat → Int32) → (Nat → Int32) → (Nat → Int32) → Prop}
    (hp : ∀ l r pl' po ta, isMend n a x y pl' → (∀ t, t < n → po t = nI (pl' t)) → (∀ t, t < n → ta (pl' t) = nI t) → post l r po ta) : wp_X1_mend len row after before placeOf taskAt (nI x) (nI y) post := by
  unfold wp_X1_mend
  have hpx := ok.2.2.1 x hx
  have hpy := ok.2.2.1 y hy
  refine ⟨vp_in_nI (by omega) (by omega), fun x4 e4 => ⟨vp_in_nI (by omega) (by omega), fun x5 e5 => ?_⟩⟩
  rw [nI_cl (by omega), h.2.2.2.2.2.1 y hy] at e4
  rw [nI_cl (by omega), h.2.2.2.2.2.1 x hx] at e5
  subst e4 e5
  have hne : a.2.2 x ≠ a.2.2 y := fun q => hr (by rw [ok.2.2.2.1 x y hx hy q]; exact ⟨0, rfl⟩)
  by_cases q : a.2.2 y < a.2.2 x
  · have C := md_C ok hx hr
    obtain ⟨pl', P⟩ := mw_ex C
    have hta : ∀ p, p < n → taskAt p = nI (atA n a p) := fun p hp => by
      have := atA_p ok hp
      have e := h.2.2.2.2.2.2 _ this.1
      rw [this.2] at e
      exact e
    have hsum := mw_sum C n
    have hcn : cntR (mw_M (atA n a) (mdA n a x y) (mdB n a x y)) n ≤ n := cw_all _ n
    refine br_t (nI_le (by omega) (by omega)) (sp_reaching hn ok h hx (by omega) (fun rA hA => sp_reachedFrom hn ok h hy hpx (fun rB hB => ?_)))
    have hsA : ∀ t, t < n → bs rA t = mdA n a x y t := fun t ht => by
      rw [Bool.eq_iff_iff, hA t (by omega)]
      unfold mdA
      rw [cd_t, Rch_iff]
      constructor
      · rintro (r | ⟨r1, r2, r3⟩)
        · exact ⟨ht, Or.inl r, by rw [r]; omega⟩
        · exact ⟨ht, Or.inr r3, r2⟩
      · rintro ⟨-, r | r, r2⟩
        · exact Or.inl r
        · exact Or.inr ⟨ht, r2, r⟩
    have hsB : ∀ t, t < n → bs rB t = mdB n a x y t := fun t ht => by
      rw [Bool.eq_iff_iff, hB t (by omega)]
      unfold mdB
      rw [cd_t, Rch_iff]
      constructor
      · rintro (r | ⟨r1, r2, r3⟩)
        · exact ⟨ht, Or.inl r.symm, by rw [r]; omega⟩
        · exact ⟨ht, Or.inr r3, r2⟩
      · rintro ⟨-, r | r, r2⟩
        · exact Or.inl r.symm
        · exact Or.inr ⟨ht, r2, r⟩
    refine sp_line (L0 := 0) hn C.1 C.2.1 hsA (fun t ht => C.2.2.2.1 t (Or.inl ht)) (by omega) hpx hta (by omega) (fun row1 _ hr1 => ?_)
    rw [Nat.zero_add]
    refine sp_line hn C.1 C.2.1 hsB (fun t ht => C.2.2.2.1 t (Or.inr ht)) (by omega) hpx hta (by omega) (fun row2 h0 hr2 => ?_)
    rw [← hsum]
    refine sp_deal hn C P (fun t ht => ?_) (by omega) (fun t ht => h.2.2.2.2.2.1 t ht) hta (fun t ht => ?_) (fun po ta g1 g2 => hp _ _ pl' po ta ⟨fun r => absurd q (by omega), fun _ => P⟩ g1 g2)
    · rw [bs_or, Bool.or_eq_true, hsA t ht, hsB t ht]
    · rcases ht with ht | ht
      · have hlt := mw_ltn C (C.2.2.2.1 t (Or.inl ht)).1 ht
        rw [mw_iA ht, h0 _ hlt]
        have := hr1 t ht
        rw [Nat.zero_add] at this
        exact this
      · rw [mw_iB C ht]
        exact hr2 t ht
  · exact br_f (nI_ge (by omega) (by omega)) (hp _ _ a.2.2 placeOf taskAt ⟨fun _ _ _ => rfl, fun r => absurd r q⟩ (fun t ht => h.2.2.2.2.2.1 t ht) (fun t ht => h.2.2.2.2.2.2 t ht))
