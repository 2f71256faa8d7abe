theorem cntR_congr {f g : Nat → Bool} : ∀ k, (∀ j, j < k → f j = g j) → cntR f k = cntR g k
  | 0, _ => rfl
  | k + 1, h => by
    unfold cntR
    rw [cntR_congr k (fun j hj => h j (by omega)), h k (by omega)]
theorem cntR_drop {f g : Nat → Bool} {y : Nat} (h1 : f y = true) (h2 : g y = false) (h : ∀ j, j ≠ y → f j = g j) : ∀ k, y < k → cntR g k + 1 = cntR f k
  | 0, hk => absurd hk (by omega)
  | k + 1, hk => by
    unfold cntR
    by_cases e : y = k
    · subst e
      rw [h1, h2, cntR_congr y (fun j hj => h j (by omega))]
      simp
    · have ih := cntR_drop h1 h2 h k (by omega)
      rw [h k (fun q => e q.symm)]
      omega
theorem cntE_congr {f g : Nat → Nat → Bool} : ∀ k, (∀ x y, x < k → y < 60 → f x y = g x y) → cntE f k = cntE g k
  | 0, _ => rfl
  | k + 1, h => by
    unfold cntE
    rw [cntE_congr k (fun x y hx => h x y (by omega)), cntR_congr 60 (fun j hj => h k j (by omega) hj)]
theorem cntE_drop {f g : Nat → Nat → Bool} {x y : Nat} (hy : y < 60) (h1 : f x y = true) (h2 : g x y = false) (h : ∀ u v, ¬ (u = x ∧ v = y) → f u v = g u v) : ∀ k, x < k → cntE g k + 1 = cntE f k
  | 0, hk => absurd hk (by omega)
  | k + 1, hk => by
    unfold cntE
    by_cases e : x = k
    · subst e
      have := cntR_drop h1 h2 (fun j hj => h x j (fun q => hj q.2)) 60 hy
      rw [cntE_congr x (fun u v hu hv => h u v (fun q => by omega))]
      omega
    · have ih := cntE_drop hy h1 h2 h k (by omega)
      rw [cntR_congr (f := f k) (g := g k) 60 (fun j hj => h k j (fun q => e q.1.symm))]
      omega
/-- a net with one tie less -/
def dropA (a : An) (x y : Nat) : An := (a.1, (fun u v => if u = x ∧ v = y then false else a.2.1 u v), a.2.2)
theorem dropA_cnt {a : An} {x y : Nat} (hx : x < 60) (hy : y < 60) (h : a.2.1 x y = true) : cntE (dropA a x y).2.1 60 + 1 = cntE a.2.1 60 :=
  cntE_drop hy h (by unfold dropA; dsimp only; rw [if_pos ⟨rfl, rfl⟩]) (fun u v q => by unfold dropA; dsimp only; rw [if_neg q]) 60 hx
theorem rl_ok_drop {n x y : Nat} {a : An} (ok : rl_ok n a) (hx : x < 60) (hy : y < 60) (h : a.2.1 x y = true) : rl_ok n (dropA a x y) := by
  have hc := dropA_cnt hx hy h
  obtain ⟨h1, h2, h3, h4, h5⟩ := ok
  refine ⟨h1, fun u v q => ?_, h3, h4, by omega⟩
  unfold dropA at q
  dsimp only at q
  by_cases z : u = x ∧ v = y
  · rw [if_pos z] at q; cases q
  · rw [if_neg z] at q; exact h2 u v q
theorem rl_net_drop {n x y : Nat} {a : An} {tasks ties : Int32} {weight : Nat → Int32} {after before : Nat → Int64} {placeOf taskAt : Nat → Int32} (h : rl_net n a tasks ties weight after before placeOf taskAt) (hx : x < 60) (hy : y < 60) (ht : a.2.1 x y = true) : rl_net n (dropA a x y) tasks (ties - 1) weight (vp_updL after x (after x &&& (gb_shl 1 (nI y) ^^^ (-1)))) (vp_updL before y (before y &&& (gb_shl 1 (nI x) ^^^ (-1)))) placeOf taskAt := by
  have hc := dropA_cnt hx hy ht
  obtain ⟨h1, h2, h3, h4, h5, h6, h7⟩ := h
  refine ⟨h1, ?_, h3, fun u v hu hv => ?_, fun u v hu hv => ?_, h6, h7⟩
  · rw [h2, ← hc, nI_pred]
  · show _ = if u = x ∧ v = y then false else a.2.1 u v
    by_cases e : u = x
    · subst e
      rw [pk_uLs, bs_and, bs_not _ hv, bs_one (by omega), h4 u v hu hv]
      by_cases e2 : v = y
      · simp [e2]
      · simp [e2]
    · rw [pk_uLn e, if_neg (fun q => e q.1)]; exact h4 u v hu hv
  · show _ = if u = x ∧ v = y then false else a.2.1 u v
    by_cases e : v = y
    · subst e
      rw [pk_uLs, bs_and, bs_not _ hu, bs_one (by omega), h5 u v hu hv]
      by_cases e2 : u = x
      · simp [e2]
      · simp [e2]
    · rw [pk_uLn e, if_neg (fun q => e q.2)]; exact h5 u v hu hv
theorem rl_blk_drop {n x y : Nat} {a : An} {all : Nat → Int32} (hn : n ≤ 60) (h : rl_blk n a all) (hx : x < 60) (hy : y < 60) : rl_blk n (dropA a x y) (upd all (60 * x + y) 0) := by
  obtain ⟨h1, h2, h3⟩ := h
  refine ⟨fun u v hu hv => ?_, fun u hu => ?_, fun u hu => ?_⟩
  · show _ = if (if u = x ∧ v = y then false else a.2.1 u v) = true then (1 : Int32) else 0
    by_cases e : u = x ∧ v = y
    · obtain ⟨rfl, rfl⟩ := e
      rw [pk_us]; simp
    · rw [pk_un (by omega), if_neg e]; exact h1 u v hu hv
  · rw [pk_un (by omega)]; exact h2 u hu
  · rw [pk_un (by omega)]; exact h3 u hu
theorem sim_untie_ok : sim_untie Rel := by
  intro cs ms hR a1 a2 hc
  have hR0 := hR
  obtain ⟨n, a, hist, hn, ok, okh, hnet, ⟨hsz, hblk⟩, hpast, hcop, hbun, hwit, hplan, hcache, hmv⟩ := hR
  unfold wp_X7_untie
  refine sp_areTasks hn hnet.1 (fun h => br_t rfl ?_) (fun x y hx hy ex ey => br_f (by decide) ?_)
  · unfold wp_X8_untie
    exact sp_has8 hn hsz (fun _ => br_t rfl ⟨rfl, hR0⟩) (fun x hx ex => br_f (by decide) (sp_has8 hn hsz (fun _ => br_t rfl ⟨rfl, hR0⟩) (fun y hy ey => absurd ⟨x, y, hx, hy, ex, ey⟩ h)))
  · subst ex ey
    refine sp_hasTie hnet (by omega) (by omega) (fun e => br_f (by decide) ?_) (fun e => br_t rfl ?_)
    · refine sp_hold ?_
      unfold wp_X2_dropTie
      have hix : vp_in (nI x) 60 := vp_in_nI (by omega) (by omega)
      have hiy : vp_in (nI y) 60 := vp_in_nI (by omega) (by omega)
      refine ⟨hix, sp_bit ⟨hix, fun af eaf => ⟨hiy, sp_bit ⟨hiy, fun be ebe ti eti => sp_keep hpast (rl_net_cpy hn ok hnet _ _ _ _ _) (fun rem' next' K' z hp2 => ?_)⟩⟩⟩⟩
      rw [nI_cl (by omega)] at eaf ebe
      unfold wp_X8_untie
      refine sp_has8 hn hsz (fun h => absurd ⟨x, hx, rfl⟩ h) (fun _ _ _ => br_f (by decide) (sp_has8 hn hsz (fun h => absurd ⟨y, hy, rfl⟩ h) (fun _ _ _ => br_f (by decide) (sp_tied8 hblk (by omega) (by omega) (fun _ => br_f (by decide) (sp_keep8 hn hpast.1 hcop hblk (fun fc' cc' copies' hc2 _ => ⟨by rw [nI_60]; exact vp_in_nI (by omega) (by omega), fun all2 ea2 => ?_⟩))) (fun e2 => absurd (e2.symm.trans e) (by decide))))))
      rw [nI_60, nI_cl (by omega)] at ea2
      unfold wp_X8_changed
      refine ⟨rfl, n, dropA a x y, (a :: hist).take 64, hn, rl_ok_drop ok (by omega) (by omega) e, take_ok ok okh, ?_, ⟨hsz, ?_⟩, hp2, hc2, hbun, hwit, hplan, ⟨Or.inl rfl, Or.inl rfl⟩, hmv⟩
      · show rl_net n _ _ ti _ af be _ _
        rw [eti, eaf, ebe]
        exact rl_net_drop hnet (by omega) (by omega) e
      · show rl_blk n _ all2
        rw [ea2]
        exact rl_blk_drop hn hblk (by omega) (by omega)
    · unfold wp_X8_untie
      exact sp_has8 hn hsz (fun h => absurd ⟨x, hx, rfl⟩ h) (fun _ _ _ => br_f (by decide) (sp_has8 hn hsz (fun h => absurd ⟨y, hy, rfl⟩ h) (fun _ _ _ => br_f (by decide) (sp_tied8 hblk (by omega) (by omega) (fun e2 => absurd (e2.symm.trans e) (by decide)) (fun _ => br_t rfl ⟨rfl, hR0⟩)))))
theorem un_loop {all copies : Nat → Int32} {b : Nat} (hb : b < 64) {kx : (Nat → Int32) → Prop} (h : ∀ c, (∀ k, k < 3720 → c k = copies (3720 * b + k)) → kx c) : ∃ k, lp_X8_undo_43 copies (nI (3720 * b)) k all 0 kx := by
  refine pk_loop (σ := Nat → Int32) (fun k i c => lp_X8_undo_43 copies (nI (3720 * b)) k c (nI i) kx) (fun i c => ∀ k, k < i → c k = copies (3720 * b + k)) 3720 0 all (by omega) (fun k hk => absurd hk (by omega)) ?_ ?_
  · intro k c hI
    show lp_X8_undo_43 _ _ (k + 1) c (nI 3720) _
    rw [lp_X8_undo_43]
    exact br_t (by decide) (h c hI)
  · intro k i c hi hI ih
    show lp_X8_undo_43 _ _ (k + 1) c (nI i) _
    rw [lp_X8_undo_43]
    have h3 : ¬ ((3720 : Int32) ≤ nI i) := by rw [show (3720 : Int32) = nI 3720 from rfl]; exact nI_ge hi (by omega)
    rw [nI_add]
    refine br_f h3 ⟨vp_in_nI (by omega) (by omega), vp_in_nI (by omega) (by omega), fun c2 ec2 z ez => ?_⟩
    rw [ez, nI_1]
    rw [nI_cl (by omega), nI_cl (by omega)] at ec2
    refine ih c2 (fun j hj => ?_)
    rw [ec2]
    by_cases q : j = i
    · subst q; rw [pk_us]
    · rw [pk_un (by omega)]; exact hI j (by omega)
theorem sim_undo_ok : sim_undo Rel := by
  intro cs ms hR _
  have hR0 := hR
  obtain ⟨n, a, hist, hn, ok, okh, hnet, ⟨hsz, hblk⟩, hpast, hcop, hbun, hwit, hplan, hcache, hmv⟩ := hR
  obtain ⟨hlen, e1, nx, hnx, e2, hK⟩ := hpast
  obtain ⟨e3, fc, hfc, e4, hC⟩ := hcop
  unfold wp_X7_undo wp_X3_takeBack
  cases hist with
  | nil =>
    have z1 : (nI ([] : List An).length) = 0 := rfl
    refine ⟨fun _ => br_t rfl ?_, fun q => absurd (e1.trans z1) q⟩
    unfold wp_X8_undo
    exact br_t (e3.trans z1) ⟨rfl, hR0⟩
  | cons h0 tl =>
    have hl1 : tl.length + 1 ≤ 64 := hlen
    have el : (h0 :: tl).length = tl.length + 1 := rfl
    rw [el] at e1 e3
    have hne : ¬ (nI (tl.length + 1) = 0) := nI_ne0 (by omega) (by omega)
    refine ⟨fun q => absurd (e1.symm.trans q) hne, fun _ n1 en1 r1 er1 => ?_⟩
    rw [e1, nI_pred] at er1
    rw [e2, show (64 : Int32) = nI 64 from rfl, nI_add, show nI (nx + 64) = nI (nx + 63 + 1) from rfl, nI_pred, show nI 64 = (64 : Int32) from rfl, rem64 (by omega)] at en1
    subst en1 er1
    obtain ⟨c, hc1, hc2⟩ := hK 0 h0 rfl
    have hin : vp_in (nI ((nx + 63) % 64)) 64 := vp_in_nI (by omega) (by omega)
    rw [nI_cl (by omega)]
    have hc1 : _ = some c := hc1
    refine ⟨hin, fun q => absurd (q.symm.trans hc1) (fun z => by cases z), fun z ez => br_f (by decide) ?_⟩
    have ezc : z = c := Option.some.inj (ez.symm.trans hc1)
    subst ezc
    have ok0 := okh h0 List.mem_cons_self
    unfold wp_X8_undo
    refine br_f (by rw [e3]; exact hne) ?_
    intro c2 ec2 x1 ex1
    rw [e3, nI_pred] at ec2
    subst ec2
    rw [e4, nI_add, rem64 (by omega), nI_3720] at ex1
    subst ex1
    refine un_loop (by omega) (fun all2 hall => ?_)
    unfold wp_X8_changed
    have hb0 := hC 0 h0 rfl
    refine ⟨rfl, n, h0, tl, hn, ok0, fun h q => okh h (List.mem_cons_of_mem _ q), rl_net_cpy hn ok0 hc2 _ _ _ _ _, ⟨hsz, rl_blk_eq hn hb0 (fun k hk => ?_)⟩, ⟨by omega, rfl, (nx + 63) % 64, by omega, rfl, fun i h q => ?_⟩, ⟨rfl, fc, hfc, e4, fun i h q => ?_⟩, hbun, hwit, hplan, ⟨Or.inl rfl, Or.inl rfl⟩, hmv⟩
    · show all2 k = ms.2.2.2.2.2.2.2.2.2.2.2.2.1 (3720 * ((fc + (h0 :: tl).length - 1 - 0) % 64) + k)
      rw [hall k hk, el, show (fc + (tl.length + 1) - 1 - 0) % 64 = (fc + tl.length) % 64 by omega]
    · obtain ⟨c3, h3, h4⟩ := hK (i + 1) h q
      have hi : i < tl.length := (List.getElem?_eq_some_iff.mp q).1
      refine ⟨c3, ?_, h4⟩
      rw [show ((nx + 63) % 64 + 63 - i) % 64 = (nx + 63 - (i + 1)) % 64 by omega]
      exact h3
    · have hi : i < tl.length := (List.getElem?_eq_some_iff.mp q).1
      have h3 := hC (i + 1) h q
      rw [el, show (fc + (tl.length + 1) - 1 - (i + 1)) % 64 = (fc + tl.length - 1 - i) % 64 by omega] at h3
      exact h3
