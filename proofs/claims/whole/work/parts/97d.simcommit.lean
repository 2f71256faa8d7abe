theorem sp_copyFrom {t0 s0 : Int32} {w0 : Nat → Int32} {a0 b0 : Nat → Int64} {p0 q0 : Nat → Int32} {tasks ties : Int32} {weight : Nat → Int32} {after before : Nat → Int64} {placeOf taskAt : Nat → Int32} {post : Int32 → Int32 → (Nat → Int32) → (Nat → Int64) → (Nat → Int64) → (Nat → Int32) → (Nat → Int32) → Prop} (h : post tasks ties (va_cpy weight w0 0 0 60) (va_cpy after a0 0 0 60) (va_cpy before b0 0 0 60) (va_cpy placeOf p0 0 0 60) (va_cpy taskAt q0 0 0 60)) : wp_X2_copyFrom t0 s0 w0 a0 b0 p0 q0 tasks ties weight after before placeOf taskAt post := by
  unfold wp_X2_copyFrom
  intro w1 e1 w2 e2 w3 e3 w4 e4 w5 e5
  subst e1 e2 e3 e4 e5
  exact h
theorem sim_commit_ok : sim_commit Rel := by
  intro cs ms hR hc
  obtain ⟨n, a, hist, hn, ok, okh, hnet, ⟨hsz, hblk⟩, hpast, hcop, hbun, hwit, hplan, hcache, hmv⟩ := hR
  obtain ⟨nb, hnb, eb, emb, hB⟩ := hbun
  unfold wp_X7_commit
  refine sp_hold ?_
  have hheld := rl_net_cpy hn ok hnet hc.1 hc.2.1 hc.2.2.1 hc.2.2.2.1 hc.2.2.2.2.1
  have hF : ∀ i, i < nb → cs.2.2.2.2.2.2.2.2.2.2.2.1 i = nI (cs.2.2.2.2.2.2.2.2.2.2.2.1 i).toNatClampNeg ∧ cs.2.2.2.2.2.2.2.2.2.2.2.2.1 i = nI (cs.2.2.2.2.2.2.2.2.2.2.2.2.1 i).toNatClampNeg ∧ (cs.2.2.2.2.2.2.2.2.2.2.2.1 i).toNatClampNeg < n ∧ (cs.2.2.2.2.2.2.2.2.2.2.2.2.1 i).toNatClampNeg < n := by
    intro i hi
    obtain ⟨-, -, u, v, hu, hv, eu, ev⟩ := hB i hi
    rw [eu, ev, nI_cl (by omega), nI_cl (by omega)]
    exact ⟨rfl, rfl, hu, hv⟩
  have hF8 : ∀ i, i < nb → ms.2.2.2.2.2.2.2.2.2.2.2.2.2.1 i = nI (cs.2.2.2.2.2.2.2.2.2.2.2.1 i).toNatClampNeg ∧ ms.2.2.2.2.2.2.2.2.2.2.2.2.2.2.1 i = nI (cs.2.2.2.2.2.2.2.2.2.2.2.2.1 i).toNatClampNeg ∧ (cs.2.2.2.2.2.2.2.2.2.2.2.1 i).toNatClampNeg < n ∧ (cs.2.2.2.2.2.2.2.2.2.2.2.2.1 i).toNatClampNeg < n := by
    intro i hi
    obtain ⟨g1, g2, -⟩ := hB i hi
    have := hF i hi
    rw [← g1, ← g2]
    exact this
  have hhp : ∀ t, t < n → (va_cpy cs.2.2.2.2.2.2.1 hc.2.2.2.1 0 0 60) t = nI (a.2.2 t) ∧ a.2.2 t < n := fun t ht => ⟨hheld.2.2.2.2.2.1 t ht, ok.2.2.1 t ht⟩
  have hcm : cmI n a ms.2.2.2.2.2.2.2.2.2.2.2.2.2.2.2.2.2.1 ms.2.2.2.2.2.2.2.2.2.2.2.2.2.2.2.2.2.2.1 ms.2.2.2.2.2.2.2.1 ms.2.2.2.2.2.2.2.2.1 ms.2.2.2.2.2.2.2.2.2.2.1 ms.2.2.2.2.2.2.2.2.2.2.2.1 ms.2.2.2.2.2.2.2.2.2.2.2.2.2.2.2.2.2.2.2.2.2.2.2.2.2.1 := ⟨hblk, hcache⟩
  have hbun0 : ∀ f t mf mt, rl_bun n 0 f t 0 mf mt := fun f t mf mt => ⟨0, by omega, rfl, rfl, fun i hi => absurd hi (by omega)⟩
  have hsame : mvd a.2.2 a.2.2 n = 0 := mvd_self (fun _ _ => rfl)
  refine sp_bringBundle (F := fun i => (cs.2.2.2.2.2.2.2.2.2.2.2.1 i).toNatClampNeg) (T := fun i => (cs.2.2.2.2.2.2.2.2.2.2.2.2.1 i).toNatClampNeg) hn ok hnet hnb eb hF (fun st cn hT ti af be po ta l r w hN => ?_) (fun m st cn hm hT hO ti af be po ta l r rw1 w hw => ?_) (fun m st cn hm hT hO ti af be po ta l r w => ?_)
  · have hcn := trc_c hT nb (Nat.le_refl nb)
    have okb := hT.2.2.1 nb (Nat.le_refl nb)
    refine br_t (nI_pos' (by omega)) ?_
    unfold wp_X7_settle
    refine br_f (nI_m1 (by omega)) (sp_moved (p := (st nb).2.2) hn hnet.1 (fun t ht => ⟨hN.2.2.2.2.2.1 t ht, okb.2.2.1 t ht⟩) hhp ?_)
    by_cases q : cn nb = 0
    · rw [q]
      refine br_t (by decide) ?_
      unfold wp_X8_commit
      refine sw_0 (fun whole hwh => cm_done hn hsz hnb emb hF8 hT hcm (fun known rk0 all r was kinds hC => br_t rfl (cm_157 hn ok okb hsz hC.1 (rl_blk_eq hn hblk hwh) ?_)))
      rw [q]
      refine br_t (by decide) ⟨rfl, ?_⟩
      exact ⟨n, st nb, hist, hn, okb, okh, hN, ⟨hsz, hC.1⟩, hpast, hcop, hbun0 _ _ _ _, hwit, hplan, hC.2, rfl⟩
    · refine br_f (nI_nle (by omega) (by omega)) (sp_keep hpast hheld (fun rem' next' K' z hp2 => ?_))
      unfold wp_X8_commit
      refine sw_0 (fun whole hwh => cm_done hn hsz hnb emb hF8 hT hcm (fun known rk0 all r was kinds hC => br_t rfl (cm_157 hn ok okb hsz hC.1 (rl_blk_eq hn hblk hwh) ?_)))
      refine br_f (nI_nle (by omega) (by omega)) (sp_keep8 hn hpast.1 hcop hC.1 (fun fc' cc' copies' hc2 hlast x3 e3 => ?_))
      obtain ⟨f, l2, hf, ef, hl2, hl0, el2, hlast⟩ := hlast
      rw [ef, el2, nI_add, show f + l2 = (f + l2 - 1) + 1 by omega, nI_pred, rem64 (by omega), nI_3720] at e3
      subst e3
      refine cm_236 (Nat.mod_lt _ (by omega)) (fun c2 h1 h2 => ⟨rfl, ?_⟩)
      exact ⟨n, st nb, (a :: hist).take 64, hn, okb, take_ok ok okh, hN, ⟨hsz, hC.1⟩, hp2, rl_copies_over hn hpast.1 hf hl2 hl0 ef el2 hc2 (rl_blk_eq hn hblk hwh) h1 h2, hbun0 _ _ _ _, hwit, hplan, hC.2, rfl⟩
  · refine br_f (by decide) ?_
    refine sp_copyFrom ?_
    have hback := rl_net_cpy hn ok hheld cs.2.2.2.1 af be po ta
    unfold wp_X7_settle
    refine br_f (by decide) (sp_moved (p := a.2.2) hn hnet.1 (fun t ht => ⟨hback.2.2.2.2.2.1 t ht, ok.2.2.1 t ht⟩) hhp (br_t (by decide) ?_))
    rw [hsame]
    unfold wp_X8_commit
    refine sw_0 (fun whole hwh => cm_stop hn hsz hnb emb hF8 hm hT hcm (Or.inl hO) (fun _ known rk0 all wit far r was kinds hw8 => ?_) (fun g => absurd hO.2 g.2.1))
    refine br_f (by decide) (sw_1 (fun all2 hall2 => ?_))
    unfold wp_X8_changed
    refine br_t rfl ⟨rfl, ?_⟩
    have oki := hT.2.2.1 m (Nat.le_refl m)
    have := dst_b oki hO.2
    have := oki.2.2.1 _ (hF m hm).2.2.1
    exact ⟨n, a, hist, hn, ok, okh, hback, ⟨hsz, rl_blk_eq hn hblk (fun k hk => (hall2 k hk).trans (hwh k hk))⟩, hpast, hcop, hbun0 _ _ _ _, ⟨_, by omega, rfl, rfl, fun i hi => (hw i (by omega)).trans (hw8 i (by omega)).symm⟩, hplan, ⟨Or.inl rfl, Or.inl rfl⟩, rfl⟩
  · refine br_f (by decide) ?_
    refine sp_copyFrom ?_
    have hback := rl_net_cpy hn ok hheld cs.2.2.2.1 af be po ta
    unfold wp_X7_settle
    refine br_t rfl ?_
    unfold wp_X8_commit
    refine sw_0 (fun whole hwh => cm_stop hn hsz hnb emb hF8 hm hT hcm (Or.inr hO) (fun g => absurd g.2 hO.2.1) (fun _ known rk0 all r was kinds => ?_))
    refine br_f (by decide) (sw_1 (fun all2 hall2 => ?_))
    unfold wp_X8_changed
    refine br_f (by decide) ⟨rfl, ?_⟩
    exact ⟨n, a, hist, hn, ok, okh, hback, ⟨hsz, rl_blk_eq hn hblk (fun k hk => (hall2 k hk).trans (hwh k hk))⟩, hpast, hcop, hbun0 _ _ _ _, hwit, hplan, ⟨Or.inl rfl, Or.inl rfl⟩, hmv⟩
