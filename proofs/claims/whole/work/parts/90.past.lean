theorem rem64 {a : Nat} (h : a < 100000) : nI a - nI a / 64 * 64 = nI (a % 64) := by
  have := pk_rem (a := a) (d := 64) (by omega) (by omega) (by omega)
  exact this
theorem rl_net_cpy {n : Nat} {a : An} {tasks ties : Int32} {weight : Nat → Int32} {after before : Nat → Int64} {placeOf taskAt : Nat → Int32} (hn : n ≤ 60) (ok : rl_ok n a) (h : rl_net n a tasks ties weight after before placeOf taskAt) (w0 : Nat → Int32) (a0 b0 : Nat → Int64) (p0 t0 : Nat → Int32) : rl_net n a tasks ties (va_cpy weight w0 0 0 60) (va_cpy after a0 0 0 60) (va_cpy before b0 0 0 60) (va_cpy placeOf p0 0 0 60) (va_cpy taskAt t0 0 0 60) := by
  obtain ⟨h1, h2, h3, h4, h5, h6, h7⟩ := h
  have key : ∀ {α : Type} (f g : Nat → α) (k : Nat), k < 60 → va_cpy f g 0 0 60 k = f k := by
    intro α f g k hk
    rw [pk_cpy_in (Nat.zero_le k) (by omega)]
    congr 1
    omega
  refine ⟨h1, h2, fun x hx => ?_, fun x y hx hy => ?_, fun x y hx hy => ?_, fun x hx => ?_, fun x hx => ?_⟩
  · rw [key _ _ x (by omega)]; exact h3 x hx
  · rw [key _ _ x hx]; exact h4 x y hx hy
  · rw [key _ _ y hy]; exact h5 x y hx hy
  · rw [key _ _ x (by omega)]; exact h6 x hx
  · have := ok.2.2.1 x hx
    rw [key _ _ _ (by omega)]; exact h7 x hx
theorem sp_hold {ht hs : Int32} {hw : Nat → Int32} {ha hb : Nat → Int64} {hpl hta : Nat → Int32} {tasks ties : Int32} {weight : Nat → Int32} {after before : Nat → Int64} {placeOf taskAt : Nat → Int32} {post : Int32 → Int32 → (Nat → Int32) → (Nat → Int64) → (Nat → Int64) → (Nat → Int32) → (Nat → Int32) → Prop} (h : post tasks ties (va_cpy weight hw 0 0 60) (va_cpy after ha 0 0 60) (va_cpy before hb 0 0 60) (va_cpy placeOf hpl 0 0 60) (va_cpy taskAt hta 0 0 60)) : wp_X3_hold ht hs hw ha hb hpl hta tasks ties weight after before placeOf taskAt post := by
  unfold wp_X3_hold wp_X2_copyFrom
  intro _ e1 _ e2 _ e3 _ e4 _ e5
  rw [e1, e2, e3, e4, e5]
  exact h
theorem take_get {h0 : An} {hist : List An} {i : Nat} {h : An} (q : ((h0 :: hist).take 64)[i]? = some h) : i < 64 ∧ ((i = 0 ∧ h = h0) ∨ ∃ j, i = j + 1 ∧ hist[j]? = some h) := by
  rw [List.getElem?_take] at q
  by_cases hi : i < 64
  · rw [if_pos hi] at q
    refine ⟨hi, ?_⟩
    cases i with
    | zero => rw [List.getElem?_cons_zero] at q; exact Or.inl ⟨rfl, (Option.some.inj q).symm⟩
    | succ j => rw [List.getElem?_cons_succ] at q; exact Or.inr ⟨j, rfl, q⟩
  · rw [if_neg hi] at q; cases q
theorem take_len {h0 : An} {hist : List An} (h : hist.length ≤ 64) : ((h0 :: hist).take 64).length = (if hist.length = 64 then 64 else hist.length + 1) := by
  rw [List.length_take, List.length_cons]
  by_cases q : hist.length = 64
  · rw [if_pos q]; omega
  · rw [if_neg q]; omega
theorem take_ok {n : Nat} {h0 : An} {hist : List An} (h1 : rl_ok n h0) (h2 : ∀ h ∈ hist, rl_ok n h) : ∀ h ∈ (h0 :: hist).take 64, rl_ok n h := by
  intro h q
  rcases List.mem_cons.mp (List.mem_of_mem_take q) with e | e
  · rw [e]; exact h1
  · exact h2 h e
theorem sp_keep {n : Nat} {a : An} {hist : List An} {rem next : Int32} {K : Nat → Option pn_c} {hc : pn_c} (hp : rl_past n hist rem next K) (hh : rl_net n a hc.2.2.2.2.2.1 hc.2.2.2.2.2.2 hc.1 hc.2.1 hc.2.2.1 hc.2.2.2.1 hc.2.2.2.2.1) {post : Int32 → Int32 → (Nat → Option pn_c) → pn_c → Prop} (h : ∀ rem' next' K' z, rl_past n ((a :: hist).take 64) rem' next' K' → post rem' next' K' z) : wp_X3_keep rem next hc K post := by
  obtain ⟨hlen, e1, nx, hnx, e2, hK⟩ := hp
  subst e1 e2
  unfold wp_X3_keep
  refine ⟨vp_in_nI hnx (by omega), fun z => h _ _ _ z ?_⟩
  have el := take_len (h0 := a) hlen
  rw [nI_cl (by omega), nI_1, nI_1, rem64 (by omega)]
  refine ⟨by rw [el]; split <;> omega, ?_, (nx + 1) % 64, by omega, rfl, fun i h2 q => ?_⟩
  · rw [el]
    unfold gb_min
    rw [show (64 : Int32) = nI 64 from rfl]
    by_cases q : hist.length = 64
    · rw [if_pos q, if_pos (nI_lt (by omega) (by omega))]
    · rw [if_neg q, if_neg (nI_nlt (by omega) (by omega))]
  · obtain ⟨hi, q | ⟨j, ej, q⟩⟩ := take_get q
    · refine ⟨hc, ?_, by rw [q.2]; exact hh⟩
      rw [show ((nx + 1) % 64 + 63 - i) % 64 = nx by rw [q.1]; omega, va_up_self]
    · obtain ⟨c, h3, h4⟩ := hK j h2 q
      refine ⟨c, ?_, h4⟩
      rw [show ((nx + 1) % 64 + 63 - i) % 64 = (nx + 63 - j) % 64 by omega, va_up_ne _ _ (by omega)]
      exact h3
theorem cp_loop {all copies : Nat → Int32} {b : Nat} (hb : b < 64) {kx : (Nat → Int32) → Prop} (h : ∀ c, (∀ k, k < 3720 → c (3720 * b + k) = all k) → (∀ j, j < 3720 * b ∨ 3720 * b + 3720 ≤ j → c j = copies j) → kx c) : ∃ k, lp_X8_keep_51 all (nI (3720 * b)) k copies 0 kx := by
  refine pk_loop (σ := Nat → Int32) (fun k i c => lp_X8_keep_51 all (nI (3720 * b)) k c (nI i) kx) (fun i c => (∀ k, k < i → c (3720 * b + k) = all k) ∧ (∀ j, j < 3720 * b ∨ 3720 * b + i ≤ j → c j = copies j)) 3720 0 copies (by omega) ⟨fun k hk => absurd hk (by omega), fun j _ => rfl⟩ ?_ ?_
  · intro k c hI
    show lp_X8_keep_51 _ _ (k + 1) c (nI 3720) _
    rw [lp_X8_keep_51]
    exact br_t (by decide) (h c hI.1 hI.2)
  · intro k i c hi hI ih
    show lp_X8_keep_51 _ _ (k + 1) c (nI i) _
    rw [lp_X8_keep_51]
    have h3 : ¬ ((3720 : Int32) ≤ nI i) := by rw [show (3720 : Int32) = nI 3720 from rfl]; exact nI_ge hi (by omega)
    rw [nI_add]
    refine br_f h3 ⟨vp_in_nI (by omega) (by omega), vp_in_nI (by omega) (by omega), fun c2 ec2 z ez => ?_⟩
    rw [ez, nI_1]
    rw [nI_cl (by omega), nI_cl (by omega)] at ec2
    refine ih c2 ⟨fun j hj => ?_, fun j hj => ?_⟩
    · rw [ec2]
      by_cases q : j = i
      · subst q; rw [pk_us]
      · rw [pk_un (by omega)]; exact hI.1 j (by omega)
    · rw [ec2, pk_un (by omega)]
      exact hI.2 j (by omega)
theorem nI_3720 (b : Nat) : (3720 : Int32) * nI b = nI (3720 * b) := by rw [show (3720 : Int32) = nI 3720 from rfl, pk_mul]
theorem rl_blk_eq {n : Nat} {a : An} {f g : Nat → Int32} (hn : n ≤ 60) (h : rl_blk n a f) (e : ∀ k, k < 3720 → g k = f k) : rl_blk n a g := by
  obtain ⟨h1, h2, h3⟩ := h
  exact ⟨fun x y hx hy => by rw [e _ (by omega)]; exact h1 x y hx hy, fun x hx => by rw [e _ (by omega)]; exact h2 x hx, fun x hx => by rw [e _ (by omega)]; exact h3 x hx⟩
theorem sp_keep8 {n : Nat} {a : An} {hist : List An} {fc cc : Int32} {all copies : Nat → Int32} (hn : n ≤ 60) (hlen : hist.length ≤ 64) (hp : rl_copies n hist fc cc copies) (hb : rl_blk n a all) {post : Int32 → Int32 → (Nat → Int32) → Prop} (h : ∀ fc' cc' copies', rl_copies n ((a :: hist).take 64) fc' cc' copies' → (∃ f l, f < 64 ∧ fc' = nI f ∧ l ≤ 64 ∧ 0 < l ∧ cc' = nI l ∧ ∀ k, k < 3720 → copies' (3720 * ((f + l - 1) % 64) + k) = all k) → post fc' cc' copies') : wp_X8_keep fc cc all copies post := by
  obtain ⟨e1, f, hf, e2, hK⟩ := hp
  subst e1 e2
  have el := take_len (h0 := a) hlen
  unfold wp_X8_keep
  by_cases q : hist.length = 64
  · rw [if_pos q] at el
    refine br_t (by rw [q]; rfl) ?_
    intro f2 ef2 c2 ec2
    rw [nI_1, rem64 (by omega)] at ef2
    rw [q, show nI 64 = nI (63 + 1) from rfl, nI_pred] at ec2
    subst ef2 ec2
    unfold jp_X8_keep_32
    intro x1 ex1
    rw [nI_add, rem64 (by omega), nI_3720] at ex1
    subst ex1
    refine cp_loop (by omega) (fun c h1 h2 c3 ec3 => ?_)
    rw [ec3, nI_1]
    refine h _ _ _ ⟨by rw [el], (f + 1) % 64, by omega, rfl, fun i g gi => ?_⟩ ⟨(f + 1) % 64, 64, by omega, rfl, by omega, by omega, rfl, fun k hk => by
      rw [show ((f + 1) % 64 + 64 - 1) % 64 = ((f + 1) % 64 + 63) % 64 by omega]; exact h1 k hk⟩
    rw [el]
    obtain ⟨hi, z | ⟨j, ej, z⟩⟩ := take_get gi
    · rw [z.2, z.1]
      refine rl_blk_eq hn hb (fun k hk => ?_)
      show c (3720 * (((f + 1) % 64 + 64 - 1 - 0) % 64) + k) = all k
      rw [show ((f + 1) % 64 + 64 - 1 - 0) % 64 = ((f + 1) % 64 + 63) % 64 by omega]
      exact h1 k hk
    · refine rl_blk_eq hn (hK j g z) (fun k hk => ?_)
      show c (3720 * (((f + 1) % 64 + 64 - 1 - i) % 64) + k) = copies (3720 * ((f + hist.length - 1 - j) % 64) + k)
      rw [show ((f + 1) % 64 + 64 - 1 - i) % 64 = (f + hist.length - 1 - j) % 64 by rw [q]; omega]
      refine h2 _ ?_
      have : (f + hist.length - 1 - j) % 64 ≠ ((f + 1) % 64 + 63) % 64 := by rw [q]; omega
      omega
  · rw [if_neg q] at el
    refine br_f (by rw [show (64 : Int32) = nI 64 from rfl, nI_eq (by omega) (by omega)]; exact q) ?_
    unfold jp_X8_keep_32
    intro x1 ex1
    rw [nI_add, rem64 (by omega), nI_3720] at ex1
    subst ex1
    refine cp_loop (by omega) (fun c h1 h2 c3 ec3 => ?_)
    rw [ec3, nI_1]
    refine h _ _ _ ⟨by rw [el], f, hf, rfl, fun i g gi => ?_⟩ ⟨f, hist.length + 1, hf, rfl, by omega, by omega, rfl, fun k hk => by
      rw [show (f + (hist.length + 1) - 1) % 64 = (f + hist.length) % 64 by omega]; exact h1 k hk⟩
    rw [el]
    obtain ⟨hi, z | ⟨j, ej, z⟩⟩ := take_get gi
    · rw [z.2, z.1]
      refine rl_blk_eq hn hb (fun k hk => ?_)
      show c (3720 * ((f + (hist.length + 1) - 1 - 0) % 64) + k) = all k
      rw [show (f + (hist.length + 1) - 1 - 0) % 64 = (f + hist.length) % 64 by omega]
      exact h1 k hk
    · have hj : j < hist.length := (List.getElem?_eq_some_iff.mp z).1
      refine rl_blk_eq hn (hK j g z) (fun k hk => ?_)
      show c (3720 * ((f + (hist.length + 1) - 1 - i) % 64) + k) = copies (3720 * ((f + hist.length - 1 - j) % 64) + k)
      rw [show (f + (hist.length + 1) - 1 - i) % 64 = (f + hist.length - 1 - j) % 64 by omega]
      refine h2 _ ?_
      have : (f + hist.length - 1 - j) % 64 ≠ (f + hist.length) % 64 := by omega
      omega
theorem sim_weigh_ok : sim_weigh Rel := by
  intro cs ms hR a1 a2 hc
  have hR0 := hR
  obtain ⟨n, a, hist, hn, ok, okh, hnet, ⟨hsz, hblk⟩, hpast, hcop, hbun, hwit, hplan, hcache, hmv⟩ := hR
  unfold wp_X7_weigh
  refine sp_isTask hn hnet.1 (fun h => br_t rfl ?_) (fun x hx ex => br_f (by decide) ?_)
  · unfold wp_X8_weigh
    exact sp_has8 hn hsz (fun _ => br_t rfl ⟨rfl, hR0⟩) (fun x hx ex => absurd ⟨x, hx, ex⟩ h)
  · subst ex
    refine sp_isWeight (fun h => br_t rfl ?_) (fun w hw ew => br_f (by decide) ?_)
    · unfold wp_X8_weigh
      refine sp_has8 hn hsz (fun h => absurd ⟨x, hx, rfl⟩ h) (fun _ _ _ => br_f (by decide) (br_c (fun _ => ⟨rfl, hR0⟩) (fun c => br_f ?_ ⟨rfl, hR0⟩)))
      exact fun q => h.elim c (fun z => k2_nle z q)
    · subst ew
      refine sp_hold ⟨vp_in_nI (by omega) (by omega), fun w1 ew1 => sp_keep hpast (rl_net_cpy hn ok hnet _ _ _ _ _) (fun rem' next' K' z hp2 => ?_)⟩
      rw [nI_cl (by omega)] at ew1
      unfold wp_X8_weigh
      refine sp_has8 hn hsz (fun h => absurd ⟨x, hx, rfl⟩ h) (fun _ _ _ => br_f (by decide) (br_f (wt_ok hw).1 (br_t (k2_le (wt_ok hw).2) (sp_keep8 hn hpast.1 hcop hblk (fun fc' cc' copies' hc2 _ => ⟨by rw [nI_3600]; exact vp_in_nI (by omega) (by omega), fun all2 ea2 => ?_⟩)))))
      rw [nI_3600, nI_cl (by omega)] at ea2
      unfold wp_X8_changed
      refine ⟨rfl, n, ((fun u => if u = x then w else a.1 u), a.2.1, a.2.2), (a :: hist).take 64, hn, ⟨fun u hu => ?_, ok.2⟩, take_ok ok okh, ⟨hnet.1, hnet.2.1, fun u hu => ?_, hnet.2.2.2⟩, ⟨hsz, fun u v hu hv => ?_, fun u hu => ?_, fun u hu => ?_⟩, hp2, hc2, hbun, hwit, hplan, ⟨Or.inl rfl, Or.inl rfl⟩, hmv⟩
      · dsimp only
        split
        · exact hw
        · exact ok.1 u hu
      · show w1 u = _
        rw [ew1]
        dsimp only
        by_cases q : u = x
        · subst q; rw [pk_us, if_pos rfl]
        · rw [pk_un q, if_neg q]; exact hnet.2.2.1 u hu
      · show all2 _ = _
        rw [ea2, pk_un (by omega)]
        exact hblk.1 u v hu hv
      · show all2 _ = _
        rw [ea2]
        dsimp only
        by_cases q : u = x
        · subst q; rw [pk_us, if_pos rfl]
        · rw [pk_un (by omega), if_neg q]; exact hblk.2.1 u hu
      · show all2 _ = _
        rw [ea2, pk_un (by omega)]
        exact hblk.2.2 u hu
