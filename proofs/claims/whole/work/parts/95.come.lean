theorem rl_blk_put {n x y : Nat} {a : An} {pl' : Nat → Nat} {all all1 : Nat → Int32} (hn : n ≤ 60) (hx : x < n) (hy : y < n) (h : rl_blk n a all) (h1 : ∀ j, j < 3660 → all1 j = all j) (h2 : ∀ t, t < n → all1 (3660 + t) = nI (pl' t)) : rl_blk n (putA a x y pl') (upd all1 (60 * x + y) 1) := by
  refine ⟨fun u v hu hv => ?_, fun u hu => ?_, fun u hu => ?_⟩
  · show _ = if (if u = x ∧ v = y then true else a.2.1 u v) = true then (1 : Int32) else 0
    by_cases e : u = x ∧ v = y
    · rw [if_pos e, if_pos rfl, e.1, e.2, pk_us]
    · rw [pk_un (by omega), if_neg e, h1 _ (by omega), h.1 u v hu hv]
  · rw [pk_un (by omega), h1 _ (by omega)]
    exact h.2.1 u hu
  · rw [pk_un (by omega)]
    exact h2 u hu
theorem sp_84 {i : Nat} {rk0 : Int32} {r : Nat → Int64} {kinds : Nat → Int32} {x1 x2 x3 x4 x6 s0 : Int32} {kh : Int32 → (Nat → Int64) → (Nat → Int32) → Int32 → Prop} (hi : i < 60) (h : kh rk0 r (upd kinds i (if x6 = 0 then (if s0 = 0 then 0 else 2) else 1)) (nI (i + 1))) : jp_X8_come_84 rk0 r kinds x1 x2 x3 x4 (nI i) x6 s0 kh := by
  unfold jp_X8_come_84
  have hin : vp_in (nI i) 60 := vp_in_nI hi (by omega)
  rw [nI_cl (by omega)]
  refine br_c (fun c => br_c (fun c2 => ⟨hin, fun k ek z ez => ?_⟩) (fun c2 => ⟨hin, fun k ek z ez => ?_⟩)) (fun c => ⟨hin, fun k ek z ez => ?_⟩)
  · rw [ek, ez, nI_1]; rw [if_pos c, if_pos c2] at h; exact h
  · rw [ek, ez, nI_1]; rw [if_pos c, if_neg c2] at h; exact h
  · rw [ek, ez, nI_1]; rw [if_neg c] at h; exact h
theorem sp_56 {n x y i : Nat} {a : An} {size rk0 : Int32} {all : Nat → Int32} {r0 : Nat → Int64} {kinds : Nat → Int32} {s0 : Int32} (hn : n ≤ 60) (ok : rl_ok n a) (hs : size = nI n) (hb : rl_blk n a all) (hc : rc_st n a.2.1 rk0 r0) (hx : x < n) (hy : y < n) (hi : i < n) {kh : Int32 → (Nat → Int64) → (Nat → Int32) → Int32 → Prop} (h : ∀ r, rc_ok n a.2.1 r → kh 1 r (upd kinds i (if s0 = 0 then (if mdB n a x y i = true then 2 else 0) else 1)) (nI (i + 1))) : jp_X8_come_56 size rk0 all r0 kinds (nI x) (nI y) (nI (a.2.2 y)) (nI (a.2.2 x)) (nI i) s0 kh := by
  unfold jp_X8_come_56
  have hpi := ok.2.2.1 i hi
  have hpx := ok.2.2.1 x hx
  refine sp_doesReach8 hn ok hs hb hc hy hi (fun q r hr => br_f (by decide) (sp_place8 hb hn hi (br_c (fun c => ?_) (fun c => ?_)))) (fun q r hr => br_t rfl ?_)
  · have := h r hr
    rw [if_neg (show ¬ mdB n a x y i = true from fun g => absurd c (nI_nlt (cd_t.mp g).2.2 (by omega)))] at this
    exact sp_84 (by omega) this
  · have := h r hr
    rw [if_pos (show mdB n a x y i = true from cd_t.mpr ⟨hi, q, by
      rcases Nat.lt_or_ge (a.2.2 x) (a.2.2 i) with r | r
      · exact absurd (nI_lt r (by omega)) c
      · exact r⟩)] at this
    exact sp_84 (by omega) this
  · have := h r hr
    rw [if_neg (show ¬ mdB n a x y i = true from fun g => q (cd_t.mp g).2.1)] at this
    exact sp_84 (by omega) this
noncomputable def kd (A B : Nat → Bool) (t : Nat) : Int32 := if A t = true then 1 else if B t = true then 2 else 0
theorem sp_22 {n x y : Nat} {a : An} {size rk0 : Int32} {all : Nat → Int32} {r0 : Nat → Int64} {kinds : Nat → Int32} (hn : n ≤ 60) (ok : rl_ok n a) (hs : size = nI n) (hb : rl_blk n a all) (hc : rc_st n a.2.1 rk0 r0) (hx : x < n) (hy : y < n) {kx : Int32 → (Nat → Int64) → (Nat → Int32) → Prop} (h : ∀ rk1 r k2, (∀ t, t < n → k2 t = kd (mdA n a x y) (mdB n a x y) t) → kx rk1 r k2) : ∃ k, lp_X8_come_22 size all (nI x) (nI y) (nI (a.2.2 y)) (nI (a.2.2 x)) k rk0 r0 kinds 0 kx := by
  subst hs
  have hpy := ok.2.2.1 y hy
  refine pk_loop (σ := Int32 × (Nat → Int64) × (Nat → Int32)) (fun k i s => lp_X8_come_22 (nI n) all (nI x) (nI y) (nI (a.2.2 y)) (nI (a.2.2 x)) k s.1 s.2.1 s.2.2 (nI i) kx) (fun i s => rc_st n a.2.1 s.1 s.2.1 ∧ ∀ t, t < i → s.2.2 t = kd (mdA n a x y) (mdB n a x y) t) n 0 (rk0, r0, kinds) (Nat.zero_le n) ⟨hc, fun t ht => absurd ht (by omega)⟩ ?_ ?_
  · intro k s hI
    show lp_X8_come_22 _ _ _ _ _ _ (k + 1) s.1 s.2.1 s.2.2 (nI n) _
    rw [lp_X8_come_22]
    exact br_t (nI_le (Nat.le_refl n) (by omega)) (h _ _ _ hI.2)
  · intro k i s hi hI ih
    show lp_X8_come_22 _ _ _ _ _ _ (k + 1) s.1 s.2.1 s.2.2 (nI i) _
    rw [lp_X8_come_22]
    have hpi := ok.2.2.1 i hi
    have step : ∀ (v : Int32), v = kd (mdA n a x y) (mdB n a x y) i → ∀ t, t < i + 1 → upd s.2.2 i v t = kd (mdA n a x y) (mdB n a x y) t := by
      intro v hv t ht
      by_cases e : t = i
      · rw [e, pk_us]; exact hv
      · rw [pk_un e]; exact hI.2 t (by omega)
    refine br_f (nI_ge hi (by omega)) (sp_doesReach8 hn ok rfl hb hI.1 hi hx (fun q r hr => br_f (by decide) (sp_place8 hb hn hi (br_c (fun c => ?_) (fun c => ?_)))) (fun q r hr => br_t rfl ?_))
    · unfold jp_X8_come_55
      refine sp_56 hn ok rfl hb (Or.inr ⟨rfl, hr⟩) hx hy hi (fun r2 hr2 => ih (1, r2, _) ⟨Or.inr ⟨rfl, hr2⟩, step _ ?_⟩)
      unfold kd
      rw [if_pos rfl, if_neg (show ¬ mdA n a x y i = true from fun g => absurd c (nI_nlt (cd_t.mp g).2.2 (by omega)))]
    · refine sp_56 hn ok rfl hb (Or.inr ⟨rfl, hr⟩) hx hy hi (fun r2 hr2 => ih (1, r2, _) ⟨Or.inr ⟨rfl, hr2⟩, step _ ?_⟩)
      unfold kd
      rw [if_neg (by decide), if_pos (show mdA n a x y i = true from cd_t.mpr ⟨hi, q, by
        rcases Nat.lt_or_ge (a.2.2 i) (a.2.2 y) with r | r
        · exact absurd (nI_lt r (by omega)) c
        · exact r⟩)]
    · unfold jp_X8_come_55
      refine sp_56 hn ok rfl hb (Or.inr ⟨rfl, hr⟩) hx hy hi (fun r2 hr2 => ih (1, r2, _) ⟨Or.inr ⟨rfl, hr2⟩, step _ ?_⟩)
      unfold kd
      rw [if_pos rfl, if_neg (show ¬ mdA n a x y i = true from fun g => q (cd_t.mp g).2.1)]
theorem sp_121 {n : Nat} {a : An} {size x1 x2 : Int32} {all was : Nat → Int32} (hn : n ≤ 60) (ok : rl_ok n a) (hs : size = nI n) (hb : rl_blk n a all) {kx : (Nat → Int32) → Prop} (h : ∀ w, (∀ p, p < n → w p = nI (atA n a p)) → kx w) : ∃ k, lp_X8_come_121 size all x1 x2 k was 0 kx := by
  subst hs
  refine pk_loop (σ := Nat → Int32) (fun k i s => lp_X8_come_121 (nI n) all x1 x2 k s (nI i) kx) (fun i s => ∀ p, p < i → s p = nI (atA n a p)) n 0 was (Nat.zero_le n) (fun t ht => absurd ht (by omega)) ?_ ?_
  · intro k s hI
    show lp_X8_come_121 _ _ _ _ (k + 1) s (nI n) _
    rw [lp_X8_come_121]
    exact br_t (nI_le (Nat.le_refl n) (by omega)) (h _ hI)
  · intro k i s hi hI ih
    show lp_X8_come_121 _ _ _ _ (k + 1) s (nI i) _
    rw [lp_X8_come_121]
    have hA := atA_p ok hi
    refine br_f (nI_ge hi (by omega)) (sp_taskAt8 hn ok rfl hb (fun t ht e => ⟨vp_in_nI (by omega) (by omega), fun w ew z ez => ?_⟩) (fun g => absurd (by rw [hA.2]) (g _ hA.1)))
    rw [ez, nI_1]
    rw [nI_cl (by omega)] at ew
    have hpt := ok.2.2.1 t ht
    have e2 : a.2.2 t = i := nI_inj (by omega) (by omega) e
    refine ih w (fun p hp => ?_)
    rw [ew]
    by_cases q : p = i
    · rw [q, pk_us, ← e2, atA_t ok ht]
    · rw [pk_un q]; exact hI p (by omega)
theorem sp_nextPlace8 {n f : Nat} {M : Nat → Bool} {at_ : Nat → Nat} {was kinds : Nat → Int32} (hn : n ≤ 60) (hf : f ≤ n) (hat : ∀ q, q < n → at_ q < n) (hw : ∀ q, q < n → was q = nI (at_ q)) (hk : ∀ q, q < n → (kinds (at_ q) = 0 ↔ M q = false)) {post : Int32 → Prop} (hp : ∀ p, isNth n M (cntR M f) p → post (nI p)) : wp_X8_nextPlace (nI n) was kinds (nI f) post := by
  unfold wp_X8_nextPlace
  refine pk_loop (σ := Unit) (fun k i _ => lp_X8_nextPlace_2 (nI n) was kinds k (nI i) (fun x => post x)) (fun i _ => f ≤ i ∧ cntR M i = cntR M f) n f () hf ⟨Nat.le_refl f, rfl⟩ ?_ ?_
  · intro k _ hI
    show lp_X8_nextPlace_2 _ _ _ (k + 1) (nI n) _
    rw [lp_X8_nextPlace_2]
    exact br_t (nI_le (Nat.le_refl n) (by omega)) (hp n ⟨Nat.le_refl n, hI.2, Or.inl rfl⟩)
  · intro k i _ hi hI ih
    show lp_X8_nextPlace_2 _ _ _ (k + 1) (nI i) _
    rw [lp_X8_nextPlace_2]
    have := hat i hi
    have ecl : (nI i).toNatClampNeg = i := nI_cl (by omega)
    refine br_f (nI_ge hi (by omega)) ⟨vp_in_nI (by omega) (by omega), ?_, ?_⟩
    · rw [ecl, hw i hi]; exact vp_in_nI (by omega) (by omega)
    · rw [ecl, hw i hi, nI_cl (by omega)]
      refine br_c (fun c z ez => ?_) (fun c => hp i ⟨by omega, hI.2, Or.inr ?_⟩)
      · rw [ez, nI_1]
        refine ih () ⟨by omega, ?_⟩
        rw [cntR_f ((hk i hi).mp c)]
        exact hI.2
      · cases hM : M i with
        | true => rfl
        | false => exact absurd ((hk i hi).mpr hM) c
theorem sp_168 {n lo hi c0 p0 : Nat} {pl at_ : Nat → Nat} {A B K D : Nat → Bool} {pl' : Nat → Nat} {was kinds all0 : Nat → Int32} {kc x1 x2 : Int32} (hn : n ≤ 60) (C : mw_C n lo hi pl at_ A B) (P : mw_P n pl at_ A B pl') (hw : ∀ q, q < n → was q = nI (at_ q)) (hkd : ∀ t, t < n → kinds t = kd A B t) (hK : ∀ t, t < n → (kinds t = kc ↔ K t = true)) (hKM : ∀ t, K t = true → A t = true ∨ B t = true) (hKi : ∀ t, K t = true → mw_i n pl at_ A B t = c0 + cntR (mw_S at_ K) (pl t)) (hp0 : isNth n (mw_M at_ A B) c0 p0) (h0 : ∀ t, t < n → all0 (3660 + t) = nI (if D t = true then pl' t else pl t)) {kx : (Nat → Int32) → Int32 → Prop}
    (hp : ∀ all' p', (∀ j, j < 3660 → all' j = all0 j) → (∀ t, t < n → all' (3660 + t) = nI (if D t = true ∨ K t = true then pl' t else pl t)) → isNth n (mw_M at_ A B) (c0 + cntR (mw_S at_ K) n) p' → kx all' (nI p')) : ∃ k, lp_X8_come_168 (nI n) was kinds x1 x2 kc k all0 (nI p0) 0 kx := by
  refine pk_loop (σ := (Nat → Int32) × Int32) (fun k i s => lp_X8_come_168 (nI n) was kinds x1 x2 kc k s.1 s.2 (nI i) kx) (fun i s => (∀ j, j < 3660 → s.1 j = all0 j) ∧ (∀ t, t < n → s.1 (3660 + t) = nI (if D t = true ∨ (K t = true ∧ pl t < i) then pl' t else pl t)) ∧ ∃ p, s.2 = nI p ∧ isNth n (mw_M at_ A B) (c0 + cntR (mw_S at_ K) i) p) n 0 (all0, nI p0) (Nat.zero_le n) ⟨fun _ _ => rfl, fun t ht => ?_, p0, rfl, hp0⟩ ?_ ?_
  · show all0 (3660 + t) = _
    rw [h0 t ht]
    by_cases q : D t = true
    · rw [if_pos q, if_pos (Or.inl q)]
    · rw [if_neg q, if_neg (fun g => g.elim q (fun g => absurd g.2 (by omega)))]
  · intro k s hI
    show lp_X8_come_168 _ _ _ _ _ _ (k + 1) s.1 s.2 (nI n) _
    rw [lp_X8_come_168]
    obtain ⟨p, ep, hpn⟩ := hI.2.2
    rw [ep]
    refine br_t (nI_le (Nat.le_refl n) (by omega)) (hp _ _ hI.1 (fun t ht => ?_) hpn)
    rw [hI.2.1 t ht]
    have := (C.1 t ht).1
    by_cases q : D t = true ∨ (K t = true ∧ pl t < n)
    · rw [if_pos q, if_pos (q.elim Or.inl (fun g => Or.inr g.1))]
    · rw [if_neg q, if_neg (fun g => q (g.elim Or.inl (fun g => Or.inr ⟨g, this⟩)))]
  · intro k i s hi2 hI ih
    show lp_X8_come_168 _ _ _ _ _ _ (k + 1) s.1 s.2 (nI i) _
    rw [lp_X8_come_168]
    obtain ⟨p, ep, hpn⟩ := hI.2.2
    have hat2 := C.2.1 i hi2
    have ecl : (nI i).toNatClampNeg = i := nI_cl (by omega)
    have hMk : ∀ q, q < n → (kinds (at_ q) = 0 ↔ mw_M at_ A B q = false) := fun q hq => by
      rw [hkd _ (C.2.1 q hq).1, mw_Mf]
      unfold kd
      cases hA : A (at_ q) with
      | true => simp
      | false =>
        cases hB : B (at_ q) with
        | true => simp
        | false => simp
    rw [ecl, hw i hi2, nI_cl (n := at_ i) (by omega), nI_3660, nI_cl (n := 3660 + at_ i) (by omega)]
    refine br_f (nI_ge hi2 (by omega)) ⟨vp_in_nI (by omega) (by omega), vp_in_nI (by omega) (by omega), br_c (fun c => ⟨vp_in_nI (by omega) (by omega), vp_in_nI (by omega) (by omega), fun al eal => ?_⟩) (fun c z ez => ?_)⟩
    · have hKt := (hK _ hat2.1).mp c
      have hM := hKM _ hKt
      have g := (P _ hat2.1).2 hM
      rw [hKi _ hKt, hat2.2] at g
      have hpp : p = pl' (at_ i) := isNth_uni hpn g
      have hmk := mw_mk C P hM
      rw [← hpp] at hmk
      rw [ep, nI_1]
      refine sp_nextPlace8 (M := mw_M at_ A B) hn (by omega) (fun q hq => (C.2.1 q hq).1) hw hMk (fun p2 hp2 z ez => ?_)
      rw [ez, nI_1]
      rw [cntR_t hmk.2, hpn.2.1] at hp2
      refine ih (al, nI p2) ⟨fun j hj => ?_, fun t ht => ?_, p2, rfl, ?_⟩
      · show al j = _
        rw [eal, pk_un (by omega)]; exact hI.1 j hj
      · show al (3660 + t) = _
        rw [eal]
        by_cases e : t = at_ i
        · rw [e, pk_us, ep, hpp, if_pos (Or.inr ⟨hKt, by omega⟩)]
        · rw [pk_un (by omega), hI.2.1 t ht]
          have hne : pl t ≠ i := fun r => e (by rw [← r, (C.1 t ht).2])
          by_cases q : D t = true ∨ (K t = true ∧ pl t < i)
          · rw [if_pos q, if_pos (q.elim Or.inl (fun g => Or.inr ⟨g.1, by omega⟩))]
          · rw [if_neg q, if_neg (fun g => q (g.elim Or.inl (fun g => Or.inr ⟨g.1, by omega⟩)))]
      · show isNth n _ (c0 + cntR (mw_S at_ K) (i + 1)) p2
        rw [cntR_t (f := mw_S at_ K) hKt, ← Nat.add_assoc]
        exact hp2
    · have hKf : K (at_ i) = false := by
        cases q : K (at_ i) with
        | false => rfl
        | true => exact absurd ((hK _ hat2.1).mpr q) c
      rw [ez, nI_1]
      refine ih s ⟨hI.1, fun t ht => ?_, p, ep, ?_⟩
      · rw [hI.2.1 t ht]
        by_cases q : D t = true ∨ (K t = true ∧ pl t < i)
        · rw [if_pos q, if_pos (q.elim Or.inl (fun g => Or.inr ⟨g.1, by omega⟩))]
        · rw [if_neg q, if_neg]
          rintro (g | ⟨g1, g2⟩)
          · exact q (Or.inl g)
          · by_cases e : pl t = i
            · rw [← e, (C.1 t ht).2, g1] at hKf; cases hKf
            · exact q (Or.inr ⟨g1, by omega⟩)
      · rw [cntR_f (f := mw_S at_ K) hKf]
        exact hpn
theorem sp_come8 {n x y : Nat} {a : An} {pl' : Nat → Nat} {size known rk0 : Int32} {all was kinds : Nat → Int32} {r0 : Nat → Int64} (hn : n ≤ 60) (ok : rl_ok n a) (hs : size = nI n) (hb : rl_blk n a all) (hc : rc_st n a.2.1 rk0 r0) (hx : x < n) (hy : y < n) (hr : ¬ Rch a.2.1 y x) (hm : isMend n a x y pl') {post : Int32 → Int32 → (Nat → Int32) → (Nat → Int64) → (Nat → Int32) → (Nat → Int32) → Prop}
    (hp : ∀ al r w k, rl_blk n (putA a x y pl') al → post 0 0 al r w k) : wp_X8_come size known rk0 all r0 was kinds (nI x) (nI y) post := by
  subst hs
  unfold wp_X8_come
  have hpx := ok.2.2.1 x hx
  have hpy := ok.2.2.1 y hy
  refine sp_place8 hb hn hy (sp_place8 hb hn hx ?_)
  rw [nI_60]
  have hin : vp_in (nI (60 * x + y)) 3720 := vp_in_nI (by omega) (by omega)
  rw [nI_cl (n := 60 * x + y) (by omega)]
  by_cases q : a.2.2 x ≤ a.2.2 y
  · refine br_t (nI_le q (by omega)) ⟨hin, fun al eal => hp _ _ _ _ ?_⟩
    rw [eal]
    refine rl_blk_put hn hx hy hb (fun _ _ => rfl) (fun t ht => ?_)
    rw [hb.2.2 t ht, hm.1 q t ht]
  · have P := hm.2 (by omega)
    have C := md_C ok hx hr
    refine br_f (nI_ge (by omega) (by omega)) (sp_22 hn ok rfl hb hc hx hy (fun rk1 r1 k1 hk1 => sp_121 hn ok rfl hb (fun w hw => ?_)))
    have hMk : ∀ q, q < n → (k1 (atA n a q) = 0 ↔ mw_M (atA n a) (mdA n a x y) (mdB n a x y) q = false) := fun q hq => by
      rw [hk1 _ (C.2.1 q hq).1, mw_Mf]
      unfold kd
      cases hA : mdA n a x y (atA n a q) with
      | true => simp
      | false =>
        cases hB : mdB n a x y (atA n a q) with
        | true => simp
        | false => simp
    have hk1' : ∀ t, t < n → (k1 t = 1 ↔ mdA n a x y t = true) := fun t ht => by
      rw [hk1 t ht]
      unfold kd
      cases hA : mdA n a x y t with
      | true => simp
      | false =>
        cases hB : mdB n a x y t with
        | true => simp
        | false => simp
    have hk2' : ∀ t, t < n → (k1 t = 2 ↔ mdB n a x y t = true) := fun t ht => by
      rw [hk1 t ht]
      unfold kd
      cases hA : mdA n a x y t with
      | true => simp [C.2.2.1 t hA]
      | false =>
        cases hB : mdB n a x y t with
        | true => simp
        | false => simp
    refine sp_nextPlace8 (f := 0) (M := mw_M (atA n a) (mdA n a x y) (mdB n a x y)) hn (Nat.zero_le n) (fun q hq => (C.2.1 q hq).1) hw hMk (fun p0 hp0 => ⟨3, ?_⟩)
    show lp_X8_come_159 _ _ _ _ _ (2 + 1) _ _ _ _
    rw [lp_X8_come_159]
    refine br_f (by decide) (sp_168 (K := mdA n a x y) (D := fun _ => false) (c0 := 0) hn C P hw hk1 hk1' (fun t ht => Or.inl ht) (fun t ht => by rw [mw_iA ht, Nat.zero_add]) hp0 (fun t ht => by rw [if_neg (by decide)]; exact hb.2.2 t ht) (fun al1 p1 h1 h2 h3 z ez => ?_))
    rw [ez]
    show lp_X8_come_159 _ _ _ _ _ (1 + 1) _ _ 2 _
    rw [lp_X8_come_159]
    rw [Nat.zero_add] at h3
    refine br_f (by decide) (sp_168 (K := mdB n a x y) (D := mdA n a x y) (c0 := cntR (mw_S (atA n a) (mdA n a x y)) n) hn C P hw hk1 hk2' (fun t ht => Or.inr ht) (fun t ht => by rw [mw_iB C ht]) h3 (fun t ht => ?_) (fun al2 p2 g1 g2 g3 z ez => ?_))
    · rw [h2 t ht]
      by_cases q : mdA n a x y t = true
      · rw [if_pos q, if_pos (Or.inr q)]
      · rw [if_neg q, if_neg (fun g => g.elim (fun g => by cases g) q)]
    · rw [ez]
      show lp_X8_come_159 _ _ _ _ _ (0 + 1) _ _ 3 _
      rw [lp_X8_come_159]
      refine br_t (by decide) ⟨hin, fun al eal => hp _ _ _ _ ?_⟩
      rw [eal]
      refine rl_blk_put hn hx hy hb (fun j hj => by rw [g1 j hj, h1 j hj]) (fun t ht => ?_)
      rw [g2 t ht]
      rcases mw_cases (mdA n a x y) (mdB n a x y) t with e | e
      · rw [if_pos e]
      · rw [if_neg (fun g => by rw [e.1, e.2] at g; rcases g with r | r <;> cases r), (P t ht).1 e.1 e.2]
