/-! THE PLAN OF THE REFERENCE -/
theorem nb0 : vp_nar .boolean 0 = 0 := by decide +kernel
theorem nb1 : vp_nar .boolean 1 = 1 := by decide +kernel
def pl_M (n m : Nat) (a : An) (σ : PS) (b0 w0 begins workers ends begun done busy : Nat → Int32) : Prop :=
  (∀ t, t < n → begun t = if σ.1 t = true then 1 else 0) ∧ (∀ t, t < n → done t = if σ.2.1 t = true then 1 else 0) ∧ (∀ i, i < 60 → begins i = if σ.1 i = true then nI (σ.2.2.1 i) else b0 i) ∧ (∀ i, i < 60 → workers i = if σ.1 i = true then nI (σ.2.2.2 i) else w0 i) ∧ (∀ t, σ.1 t = true → ends t = nI (en a σ t)) ∧ ∀ w, w < m → (busy w = 1 ∧ ∃ t, rn σ t ∧ σ.2.2.2 t = w) ∨ (busy w = 0 ∧ freeW σ w)
theorem if01 {b : Bool} {x : Int32} (h : x = if b = true then 1 else 0) : x = 0 ↔ b = false := by
  subst h
  cases b <;> simp
theorem pl_free8 {n m w : Nat} {a : An} {σ : PS} {b0 w0 begins workers ends begun done busy : Nat → Int32} (h : pl_M n m a σ b0 w0 begins workers ends begun done busy) (hw : w < m) : busy w = 0 ↔ freeW σ w := by
  rcases h.2.2.2.2.2 w hw with ⟨h1, t, h2, h3⟩ | ⟨h1, h2⟩
  · exact ⟨fun e => by rw [h1] at e; exact absurd e (by decide), fun e => absurd h3 (e t h2)⟩
  · exact ⟨fun _ => h2, fun _ => h1⟩
theorem rd_17 {n x : Nat} {a : An} {σ : PS} {all done : Nat → Int32} {s0 : Int32} (hn : n ≤ 60) (ok : rl_ok n a) (hb : rl_blk n a all) (hx : x < n) (hd : ∀ t, t < n → done t = if σ.2.1 t = true then 1 else 0) (h01 : s0 = 0 ∨ s0 = 1) (h0 : s0 ≠ 0 ↔ σ.1 x = false) {kx : Int32 → Prop} (hk : ∀ r, (r = 0 ∨ r = 1) → (r ≠ 0 ↔ rdy a σ x) → kx r) : ∃ k, lp_X8_isReady_17 (nI n) all done (nI x) k s0 0 kx := by
  refine pk_loop (σ := Int32) (fun k i s => lp_X8_isReady_17 (nI n) all done (nI x) k s (nI i) kx) (fun i s => (s = 0 ∨ s = 1) ∧ (s ≠ 0 ↔ σ.1 x = false ∧ ∀ z, z < i → a.2.1 z x = true → σ.2.1 z = true)) n 0 s0 (Nat.zero_le n) ⟨h01, ⟨fun q => ⟨h0.mp q, fun z hz => absurd hz (by omega)⟩, fun q => h0.mpr q.1⟩⟩ ?_ ?_
  · intro k s hI
    show lp_X8_isReady_17 _ _ _ _ (k + 1) s (nI n) _
    rw [lp_X8_isReady_17]
    refine br_t (nI_le (Nat.le_refl n) (by omega)) (hk s hI.1 ?_)
    rw [hI.2]
    exact ⟨fun q => ⟨q.1, fun z hz => q.2 z (ok.2.1 z x hz).1 hz⟩, fun q => ⟨q.1, fun z _ hz => q.2 z hz⟩⟩
  · intro k i s hi hI ih
    show lp_X8_isReady_17 _ _ _ _ (k + 1) s (nI i) _
    rw [lp_X8_isReady_17]
    refine br_f (nI_ge hi (by omega)) (br_c (fun c => ?_) (fun c => ?_))
    · refine hk s hI.1 ⟨fun q => absurd c q, fun q => ?_⟩
      exact hI.2.mpr ⟨q.1, fun z _ hz => q.2 z hz⟩
    · have hs := hI.2.mp c
      refine sp_tied8 hb (by omega) (by omega) (fun q => br_f (by decide) ⟨vp_in_nI (by omega) (by omega), ?_⟩) (fun q => br_t rfl (fun z ez => ?_))
      · rw [nI_cl (by omega)]
        refine br_c (fun c2 z ez => ?_) (fun c2 z ez => ?_)
        · rw [ez, nI_1]
          have hf := (if01 (hd i hi)).mp c2
          refine ih 0 ⟨Or.inl rfl, ⟨fun w => absurd rfl w, fun w => ?_⟩⟩
          have := w.2 i (by omega) q
          rw [hf] at this
          cases this
        · rw [ez, nI_1]
          have ht : σ.2.1 i = true := by
            cases e : σ.2.1 i with
            | true => rfl
            | false => exact absurd ((if01 (hd i hi)).mpr e) c2
          refine ih 1 ⟨Or.inr rfl, ⟨fun _ => ⟨hs.1, fun w hw hz => ?_⟩, fun _ => by decide⟩⟩
          by_cases e : w = i
          · rw [e]; exact ht
          · exact hs.2 w (by omega) hz
      · rw [ez, nI_1]
        refine ih 1 ⟨Or.inr rfl, ⟨fun _ => ⟨hs.1, fun w hw hz => ?_⟩, fun _ => by decide⟩⟩
        by_cases e : w = i
        · rw [e, q] at hz; cases hz
        · exact hs.2 w (by omega) hz
theorem sp_isReady8 {n x : Nat} {a : An} {σ : PS} {all begun done : Nat → Int32} (hn : n ≤ 60) (ok : rl_ok n a) (hb : rl_blk n a all) (hx : x < n) (hg : ∀ t, t < n → begun t = if σ.1 t = true then 1 else 0) (hd : ∀ t, t < n → done t = if σ.2.1 t = true then 1 else 0) {post : Int32 → Prop} (hk : ∀ r, (r ≠ 0 ↔ rdy a σ x) → post r) : wp_X8_isReady (nI n) all begun done (nI x) post := by
  unfold wp_X8_isReady
  refine ⟨vp_in_nI (by omega) (by omega), ?_⟩
  rw [nI_cl (by omega)]
  refine br_c (fun c => ?_) (fun c => ?_)
  · exact rd_17 hn ok hb hx hd (Or.inr rfl) ⟨fun _ => (if01 (hg x hx)).mp c, fun _ => by decide⟩ (fun r h1 h2 => ⟨h1, hk r h2⟩)
  · exact rd_17 hn ok hb hx hd (Or.inl rfl) ⟨fun q => absurd rfl q, fun q => absurd ((if01 (hg x hx)).mpr q) c⟩ (fun r h1 h2 => ⟨h1, hk r h2⟩)
theorem sp_free8 {m : Nat} {σ : PS} {busy : Nat → Int32} {x1 x2 : Int32} (hm : m ≤ 8) (hf : ∀ w, w < m → (busy w = 0 ↔ freeW σ w)) {kx : Int32 → Prop} (h : ∀ r, isL m (freeW σ) r → kx r) : ∃ k, lp_X8_takeAll_14 busy x1 x2 k (-1) (nI m - 1) kx := by
  refine ⟨m + 1, pk_loopD (σ := Int32) (fun k i s => lp_X8_takeAll_14 busy x1 x2 k s (nI i - 1) kx) (fun i s => i ≤ m ∧ isD m i (freeW σ) s) ?_ ?_ m (-1) ⟨Nat.le_refl m, Or.inr ⟨fun x q1 q2 => absurd q1 (by omega), rfl⟩⟩⟩
  · intro k s hI
    show lp_X8_takeAll_14 _ _ _ (k + 1) s (nI 0 - 1) _
    rw [lp_X8_takeAll_14]
    exact br_t (by decide) (h s (isD_0 hI.2))
  · intro k i s hI ih
    show lp_X8_takeAll_14 _ _ _ (k + 1) s (nI (i + 1) - 1) _
    rw [lp_X8_takeAll_14, nI_pred]
    have hi : i < m := by have := hI.1; omega
    refine br_f (nI_pos (by omega)) ⟨vp_in_nI (by omega) (by omega), ?_⟩
    rw [nI_cl (by omega)]
    refine br_c (fun c z ez => ?_) (fun c z ez => ?_)
    · rw [ez, i32_m1]
      exact ih (nI i) ⟨by omega, isD_t hi ((hf i hi).mp c)⟩
    · rw [ez, i32_m1]
      exact ih s ⟨by omega, isD_f (fun p => c ((hf i hi).mpr p)) hI.2⟩
theorem isB_neg {k : Nat} {T : Nat → Nat} {R : Nat → Prop} {r : Int32} (hk : k ≤ 60) (h : isB k T R r) : r < 0 ↔ r = -1 := by
  rcases h with ⟨x, h1, h2, h3, h4, h5⟩ | ⟨h1, h2⟩
  · rw [h5]
    exact ⟨fun q => absurd q (nI_pos (by omega)), fun q => absurd q (nI_ne1 (by omega))⟩
  · rw [h2]
    exact ⟨fun _ => rfl, fun _ => by decide⟩
theorem isL_neg {k : Nat} {R : Nat → Prop} {r : Int32} (hk : k ≤ 60) (h : isL k R r) : r < 0 ↔ r = -1 := by
  rcases h with ⟨x, h1, h2, h3, h4⟩ | ⟨h1, h2⟩
  · rw [h4]
    exact ⟨fun q => absurd q (nI_pos (by omega)), fun q => absurd q (nI_ne1 (by omega))⟩
  · rw [h2]
    exact ⟨fun _ => rfl, fun _ => by decide⟩
theorem sp_best8 {n : Nat} {a : An} {σ : PS} {all tails begun done : Nat → Int32} {x1 x2 x4 : Int32} (hn : n ≤ 60) (ok : rl_ok n a) (hb : rl_blk n a all) (hw : ∀ t, t < n → tails t = nI (Ta n a t)) (hg : ∀ t, t < n → begun t = if σ.1 t = true then 1 else 0) (hd : ∀ t, t < n → done t = if σ.2.1 t = true then 1 else 0) {kx : Int32 → Prop} (h : ∀ r, isB n (Ta n a) (rdy a σ) r → kx r) : ∃ k, lp_X8_takeAll_50 (nI n) all tails begun done x1 x2 x4 k (-1) 0 kx := by
  refine pk_loop (σ := Int32) (fun k i s => lp_X8_takeAll_50 (nI n) all tails begun done x1 x2 x4 k s (nI i) kx) (fun i s => isB i (Ta n a) (rdy a σ) s) n 0 (-1) (Nat.zero_le n) (Or.inr ⟨fun x hx => absurd hx (by omega), rfl⟩) ?_ ?_
  · intro k s hI
    show lp_X8_takeAll_50 _ _ _ _ _ _ _ _ (k + 1) s (nI n) _
    rw [lp_X8_takeAll_50]
    exact br_t (nI_le (Nat.le_refl n) (by omega)) (h s hI)
  · intro k i s hi hI ih
    show lp_X8_takeAll_50 _ _ _ _ _ _ _ _ (k + 1) s (nI i) _
    rw [lp_X8_takeAll_50]
    refine br_f (nI_ge hi (by omega)) (sp_isReady8 hn ok hb hi hg hd (fun r hR => br_c (fun c z ez => ?_) (fun c => br_c (fun c2 z ez => ?_) (fun c2 => ?_))))
    · rw [ez, nI_1]
      exact ih s (isB_f hI (fun q => (hR.mpr q) c))
    · rw [ez, nI_1]
      exact ih _ (isB_1 (by omega) hI ((isB_neg (by omega) hI).mp c2) (hR.mp c))
    · obtain ⟨x, hx, e⟩ := isB_x hI (fun q => c2 ((isB_neg (by omega) hI).mpr q))
      subst e
      have b1 := Ta_b ok hn hi
      have b2 := Ta_b ok hn (y := x) (by omega)
      rw [nI_cl (by omega), nI_cl (by omega), hw i hi, hw x (by omega)]
      refine ⟨vp_in_nI (by omega) (by omega), vp_in_nI (by omega) (by omega), br_c (fun c3 z ez => ?_) (fun c3 z ez => ?_)⟩
      · rw [ez, nI_1]
        exact ih _ (isB_2 (by omega) hx hI ((nI_leI (by omega) (by omega)).mp c3))
      · rw [ez, nI_1]
        refine ih _ (isB_3 (by omega) hx hI (hR.mp c) ?_)
        rcases Nat.lt_or_ge (Ta n a x) (Ta n a i) with q | q
        · exact q
        · exact absurd ((nI_leI (by omega) (by omega)).mpr q) c3
theorem sp_take8 {n m B now w t : Nat} {a : An} {σ : PS} {all b0 w0 begins workers ends begun done busy : Nat → Int32} (hn : n ≤ 60) (hm : m ≤ 8) (ok : rl_ok n a) (hb : rl_blk n a all) (hA : AI n m B σ) (hM : pl_M n m a σ b0 w0 begins workers ends begun done busy) (hw : w < m) (ht : t < n) (hf : freeW σ w) (hg : σ.1 t = false) {x1 : Int32} {kh : (Nat → Int32) → (Nat → Int32) → (Nat → Int32) → (Nat → Int32) → (Nat → Int32) → (Nat → Int32) → Int32 → Prop} (hk : ∀ be wo eo b d bu, pl_M n m a (tkS a now σ w t) b0 w0 be wo eo b d bu → kh be wo eo b d bu 1) : jp_X8_takeAll_120 all begins workers ends begun done busy x1 (nI now) (nI w) (nI t) 1 kh := by
  have hdt : σ.2.1 t = false := by
    cases e : σ.2.1 t with
    | false => rfl
    | true => have := hA.2.1 t e; rw [hg] at this; cases this
  have hwt := ok.1 t ht
  have hix : vp_in (nI t) 60 := vp_in_nI (by omega) (by omega)
  have hiw : vp_in (nI w) 8 := vp_in_nI (by omega) (by omega)
  have et : (nI t).toNatClampNeg = t := nI_cl (by omega)
  have ew : (nI w).toNatClampNeg = w := nI_cl (by omega)
  have base : ∀ be wo eo b d bu, b = upd begun t 1 → be = upd begins t (nI now) → wo = upd workers t (nI w) → eo = upd ends t (nI (now + a.1 t)) → d = upd done t (if a.1 t = 0 then 1 else 0) → bu = upd busy w (if a.1 t = 0 then 0 else 1) → pl_M n m a (tkS a now σ w t) b0 w0 be wo eo b d bu := by
    intro be wo eo b d bu eb ebe ewo eeo ed ebu
    refine ⟨fun u hu => ?_, fun u hu => ?_, fun i hi => ?_, fun i hi => ?_, fun u hu => ?_, fun v hv => ?_⟩
    · rw [eb, tk_1]
      by_cases e : u = t
      · rw [e, pk_us, if_pos rfl, if_pos rfl]
      · rw [pk_un e, if_neg e]; exact hM.1 u hu
    · rw [ed, tk_2]
      by_cases e : u = t
      · rw [e, pk_us, if_pos rfl]
        by_cases q : a.1 t = 0
        · rw [if_pos q, decide_eq_true q, if_pos rfl]
        · rw [if_neg q, decide_eq_false q, if_neg Bool.false_ne_true]
      · rw [pk_un e, if_neg e]; exact hM.2.1 u hu
    · rw [ebe, tk_1, tk_3]
      by_cases e : i = t
      · rw [e, pk_us, if_pos rfl, if_pos rfl, if_pos rfl]
      · rw [pk_un e, if_neg e, if_neg e]; exact hM.2.2.1 i hi
    · rw [ewo, tk_1, tk_4]
      by_cases e : i = t
      · rw [e, pk_us, if_pos rfl, if_pos rfl, if_pos rfl]
      · rw [pk_un e, if_neg e, if_neg e]; exact hM.2.2.2.1 i hi
    · rw [eeo, en_tk]
      rw [tk_1] at hu
      by_cases e : u = t
      · rw [e, pk_us, if_pos rfl]
      · rw [if_neg e] at hu
        rw [pk_un e, if_neg e]; exact hM.2.2.2.2.1 u hu
    · rw [ebu]
      by_cases ev : v = w
      · rw [ev, pk_us]
        by_cases q : a.1 t = 0
        · rw [if_pos q]
          refine Or.inr ⟨rfl, fun u hu => ?_⟩
          rcases rn_tk.mp hu with ⟨-, z⟩ | ⟨z1, z2⟩
          · exact absurd q z
          · rw [tk_4, if_neg z1]; exact hf u z2
        · rw [if_neg q]
          exact Or.inl ⟨rfl, t, rn_tk.mpr (Or.inl ⟨rfl, q⟩), by rw [tk_4, if_pos rfl]⟩
      · rw [pk_un ev]
        rcases hM.2.2.2.2.2 v hv with ⟨h1, u, h2, h3⟩ | ⟨h1, h2⟩
        · have hut : u ≠ t := fun e => by have := h2.1; rw [e, hg] at this; cases this
          exact Or.inl ⟨h1, u, rn_tk.mpr (Or.inr ⟨hut, h2⟩), by rw [tk_4, if_neg hut]; exact h3⟩
        · refine Or.inr ⟨h1, fun u hu => ?_⟩
          rcases rn_tk.mp hu with ⟨z, -⟩ | ⟨z1, z2⟩
          · rw [tk_4, if_pos z]; exact fun e => ev e.symm
          · rw [tk_4, if_neg z1]; exact h2 u z2
  unfold jp_X8_takeAll_120
  rw [et]
  refine br_f (by decide) ⟨hix, fun b eb => ⟨hix, fun be ebe => ⟨hix, fun wo ewo => sp_weight8 hb hn ht ⟨hix, fun eo eeo => sp_weight8 hb hn ht ?_⟩⟩⟩⟩
  rw [nb1] at eb
  rw [nI_add] at eeo
  refine br_c (fun c => ?_) (fun c => ?_)
  · have hw0 : a.1 t = 0 := nI_inj (by omega) (by omega) c
    unfold jp_X8_takeAll_185
    rw [et, ew]
    refine ⟨hix, fun d ed => sp_weight8 hb hn ht (br_t (by rw [c]; decide) ⟨hiw, fun bu ebu => hk be wo eo b d bu (base be wo eo b d bu eb ebe ewo eeo ?_ ?_)⟩)⟩
    · rw [ed, nb1, if_pos hw0]
    · rw [ebu, nb0, if_pos hw0]
  · have hw0 : a.1 t ≠ 0 := fun e => c (by rw [e]; rfl)
    unfold jp_X8_takeAll_185
    rw [et, ew]
    refine ⟨hix, fun d ed => sp_weight8 hb hn ht (br_f (nI_nle (by omega) (by omega)) ⟨hiw, fun bu ebu => hk be wo eo b d bu (base be wo eo b d bu eb ebe ewo eeo ?_ ?_)⟩)⟩
    · rw [ed, nb0, if_neg hw0]
    · rw [ebu, nb1, if_neg hw0]
theorem sp_takeAll8 {n m B now : Nat} {a : An} {σ : PS} {all tails b0 w0 begins workers ends begun done busy : Nat → Int32} (hn : n ≤ 60) (hm : m ≤ 8) (ok : rl_ok n a) (hb : rl_blk n a all) (hw : ∀ t, t < n → tails t = nI (Ta n a t)) (hA : AI n m B σ) (hB : now ≤ B) (hM : pl_M n m a σ b0 w0 begins workers ends begun done busy) {post : (Nat → Int32) → (Nat → Int32) → (Nat → Int32) → (Nat → Int32) → (Nat → Int32) → (Nat → Int32) → Prop} (hp : ∀ τ be wo eo b d bu, endsIn (stT n a m now) (noT n a m) σ τ → pl_M n m a τ b0 w0 be wo eo b d bu → post be wo eo b d bu) : wp_X8_takeAll (nI n) all tails begins workers ends begun done busy (nI m) (nI now) post := by
  unfold wp_X8_takeAll
  refine pk_loop (σ := ((Nat → Int32) × (Nat → Int32) × (Nat → Int32) × (Nat → Int32) × (Nat → Int32) × (Nat → Int32)) × Int32) (fun k _ s => lp_X8_takeAll_2 (nI n) all tails (nI m) (nI now) k s.1.1 s.1.2.1 s.1.2.2.1 s.1.2.2.2.1 s.1.2.2.2.2.1 s.1.2.2.2.2.2 s.2 (fun be wo eo b d bu => post be wo eo b d bu)) (fun i s => (s.2 = 1 ∧ ∃ τ, itr (stT n a m now) i σ τ ∧ pl_M n m a τ b0 w0 s.1.1 s.1.2.1 s.1.2.2.1 s.1.2.2.2.1 s.1.2.2.2.2.1 s.1.2.2.2.2.2) ∨ (s.2 = 0 ∧ post s.1.1 s.1.2.1 s.1.2.2.1 s.1.2.2.2.1 s.1.2.2.2.2.1 s.1.2.2.2.2.2)) (n + 2) 0 ((begins, workers, ends, begun, done, busy), 1) (by omega) (Or.inl ⟨rfl, σ, rfl, hM⟩) ?_ ?_
  · rintro k ⟨⟨be, wo, eo, b, d, bu⟩, x3⟩ hI
    rcases hI with ⟨-, τ, hit, -⟩ | ⟨e3, hq⟩
    · have h1 := (itr_AI hn hm hB hA hit).2.2
      have h2 := cw_all τ.1 n
      omega
    · show lp_X8_takeAll_2 _ _ _ _ _ (k + 1) be wo eo b d bu x3 _
      rw [lp_X8_takeAll_2]
      exact br_t e3 hq
  · rintro k i ⟨⟨be, wo, eo, b, d, bu⟩, x3⟩ hi hI ih
    show lp_X8_takeAll_2 _ _ _ _ _ (k + 1) be wo eo b d bu x3 _
    rw [lp_X8_takeAll_2]
    rcases hI with ⟨e3, τ, hit, hM2⟩ | ⟨e3, hq⟩
    · have e3 : x3 = 1 := e3
      have hM2 : pl_M n m a τ b0 w0 be wo eo b d bu := hM2
      have hA2 := (itr_AI hn hm hB hA hit).1
      refine br_f (by rw [e3]; decide) (fun x5 ex5 => ?_)
      subst ex5
      have none8 : ∀ (r q : Int32), noT n a m τ → jp_X8_takeAll_119 all be wo eo b d bu (nI m) (nI now) r q (fun be wo eo b d bu x3 => lp_X8_takeAll_2 (nI n) all tails (nI m) (nI now) k be wo eo b d bu x3 (fun be wo eo b d bu => post be wo eo b d bu)) := by
        intro r q hno
        unfold jp_X8_takeAll_119 jp_X8_takeAll_120
        exact br_t rfl (ih ((be, wo, eo, b, d, bu), 0) (Or.inr ⟨rfl, hp τ be wo eo b d bu ⟨i, hit, hno⟩ hM2⟩))
      refine sp_free8 hm (fun w hw => pl_free8 hM2 hw) (fun r hr => sp_best8 hn ok hb hw hM2.1 hM2.2.1 (fun q hq => br_c (fun c => ?_) (fun c => br_c (fun c2 => ?_) (fun c2 => ?_))))
      · refine none8 r q (Or.inl ?_)
        rw [(isL_neg (by omega) hr).mp c] at hr
        exact hr
      · refine none8 r q (Or.inr ?_)
        rw [(isB_neg hn hq).mp c2] at hq
        exact hq
      · obtain ⟨t, ht, et⟩ := isB_x hq (fun e => c2 ((isB_neg hn hq).mpr e))
        have hex : ∃ w, w < m ∧ r = nI w := by
          rcases hr with ⟨w, h1, h2, h3, h4⟩ | ⟨h1, h2⟩
          · exact ⟨w, h1, h4⟩
          · exact absurd (by rw [h2]; decide) c
        obtain ⟨w, hwm, ew⟩ := hex
        subst et ew
        have hR := isB_at hn ht hq
        refine sp_take8 hn hm ok hb hA2 hM2 hwm ht (isL_at (by omega) hwm hr) hR.1 (fun be2 wo2 eo2 b2 d2 bu2 hM3 => ?_)
        exact ih ((be2, wo2, eo2, b2, d2, bu2), 1) (Or.inl ⟨rfl, _, itr_snoc hit ⟨w, t, hwm, ht, hr, hq, rfl⟩, hM3⟩)
    · exact br_t e3 hq
