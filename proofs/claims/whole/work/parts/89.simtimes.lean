theorem ck_ok {n : Nat} {a : An} (ok : rl_ok n a) {e t : Nat → Int32} (he : ∀ x, x < n → e x = nI (Ea n a x)) (ht : ∀ x, x < n → t x = nI (Ta n a x)) : (1 : Int32) = 0 ∨ (1 : Int32) = 1 ∧ ∃ (f g : Nat → Nat) (q : Nat), isEarly n a f ∧ isTail n a g ∧ isAll n a f q ∧ (∀ x, x < n → e x = nI (f x) ∧ t x = nI (g x)) ∧ nI (Al n a) = nI q :=
  Or.inr ⟨rfl, Ea n a, Ta n a, Al n a, isEarly_Ea ok, isTail_Ta ok, isAll_Al, fun x hx => ⟨he x hx, ht x hx⟩, rfl⟩
theorem sim_count_ok : sim_count Rel := by
  intro cs ms hR a1
  have hR0 := hR
  obtain ⟨n, a, hist, hn, ok, okh, hnet, ⟨hsz, hblk⟩, hpast, hcop, hbun, hwit, hplan, hcache, hmv⟩ := hR
  unfold wp_X7_count
  refine br_c (fun c0 => ?_) (fun c0 => br_c (fun c1 => ?_) (fun c1 => br_c (fun c2 => ?_) (fun c2 => br_c (fun c3 => ?_) (fun c3 => br_c (fun c4 => ?_) (fun c4 => br_c (fun c5 => ?_) (fun c5 => br_c (fun c6 => ?_) (fun c6 => br_c (fun c7 => ?_) (fun c7 => ?_))))))))
  · unfold wp_X8_count
    exact br_t c0 ⟨by rw [hnet.1, hsz], hR0⟩
  · unfold wp_X8_count
    exact br_f c0 (br_t c1 (sp_ties8 hblk ⟨hnet.2.1, hR0⟩))
  · unfold wp_X8_count
    obtain ⟨nb, -, e1, e2, -⟩ := hbun
    exact br_f c0 (br_f c1 (br_t c2 ⟨by rw [e1, e2], hR0⟩))
  · unfold wp_X8_count
    exact br_f c0 (br_f c1 (br_f c2 (br_t c3 ⟨by rw [hpast.2.1, hcop.1], hR0⟩)))
  · unfold wp_X8_count
    obtain ⟨wl, -, e1, e2, -⟩ := hwit
    exact br_f c0 (br_f c1 (br_f c2 (br_f c3 (br_t c4 ⟨by rw [e1, e2], hR0⟩))))
  · unfold wp_X8_count
    exact br_f c0 (br_f c1 (br_f c2 (br_f c3 (br_f c4 (br_t c5 ⟨hmv, hR0⟩)))))
  · refine sp_countSpare hn ok hnet ?_
    unfold wp_X8_count
    refine br_f c0 (br_f c1 (br_f c2 (br_f c3 (br_f c4 (br_f c5 (br_t c6 (sp_countNeedless8 hn ok hsz hblk hcache.1 (fun k r hr => ⟨rfl, ?_⟩))))))))
    exact ⟨n, a, hist, hn, ok, okh, hnet, ⟨hsz, hblk⟩, hpast, hcop, hbun, hwit, hplan, ⟨hr, hcache.2⟩, hmv⟩
  · refine sp_measure hn ok hnet (fun e t he ht => ?_)
    unfold wp_X8_count
    refine br_f c0 (br_f c1 (br_f c2 (br_f c3 (br_f c4 (br_f c5 (br_f c6 (br_t c7 (sp_findTimes8 hn ok hsz hblk hcache.2 (fun e2 t2 he2 ht2 => ⟨rfl, ?_⟩)))))))))
    exact ⟨n, a, hist, hn, ok, okh, hnet, ⟨hsz, hblk⟩, hpast, hcop, hbun, hwit, hplan, ⟨hcache.1, ck_ok ok he2 ht2⟩, hmv⟩
  · unfold wp_X8_count
    exact br_f c0 (br_f c1 (br_f c2 (br_f c3 (br_f c4 (br_f c5 (br_f c6 (br_f c7 ⟨rfl, hR0⟩)))))))
theorem sim_time_ok : sim_time Rel := by
  intro cs ms hR a1 a2
  have hR0 := hR
  obtain ⟨n, a, hist, hn, ok, okh, hnet, ⟨hsz, hblk⟩, hpast, hcop, hbun, hwit, hplan, hcache, hmv⟩ := hR
  unfold wp_X7_time
  refine sp_isTask hn hnet.1 (fun h => br_t rfl ?_) (fun x hx ex => br_f (by decide) ?_)
  · unfold wp_X8_time
    exact sp_has8 hn hsz (fun _ => br_t rfl ⟨rfl, hR0⟩) (fun x hx ex => absurd ⟨x, hx, ex⟩ h)
  · subst ex
    have hin : vp_in (nI x) 60 := vp_in_nI (by omega) (by omega)
    have ecl : (nI x).toNatClampNeg = x := nI_cl (by omega)
    refine sp_measure hn ok hnet (fun e t he ht => ?_)
    refine br_c (fun c0 => ⟨hin, ?_⟩) (fun c0 => br_c (fun c1 => ⟨hin, ?_⟩) (fun c1 => br_c (fun c2 => ⟨hin, ?_⟩) (fun c2 => br_c (fun c3 => ⟨hin, ?_⟩) (fun c3 => br_c (fun c4 => ?_) (fun c4 => ?_)))))
    · unfold wp_X8_time
      refine sp_has8 hn hsz (fun h => absurd ⟨x, hx, rfl⟩ h) (fun _ _ _ => br_f (by decide) (sp_findTimes8 hn ok hsz hblk hcache.2 (fun e2 t2 he2 ht2 => br_t c0 ⟨hin, ?_, ?_⟩)))
      · rw [ecl, he x hx, he2 x hx]
      · exact ⟨n, a, hist, hn, ok, okh, hnet, ⟨hsz, hblk⟩, hpast, hcop, hbun, hwit, hplan, ⟨hcache.1, ck_ok ok he2 ht2⟩, hmv⟩
    · unfold wp_X8_time
      refine sp_has8 hn hsz (fun h => absurd ⟨x, hx, rfl⟩ h) (fun _ _ _ => br_f (by decide) (sp_findTimes8 hn ok hsz hblk hcache.2 (fun e2 t2 he2 ht2 => br_f c0 (br_t c1 ⟨hin, ?_, ?_⟩))))
      · rw [ecl, ht x hx, ht2 x hx]
      · exact ⟨n, a, hist, hn, ok, okh, hnet, ⟨hsz, hblk⟩, hpast, hcop, hbun, hwit, hplan, ⟨hcache.1, ck_ok ok he2 ht2⟩, hmv⟩
    · unfold wp_X8_time
      refine sp_has8 hn hsz (fun h => absurd ⟨x, hx, rfl⟩ h) (fun _ _ _ => br_f (by decide) (sp_findTimes8 hn ok hsz hblk hcache.2 (fun e2 t2 he2 ht2 => br_f c0 (br_f c1 (br_t c2 ⟨hin, ?_, ?_⟩)))))
      · rw [ecl, ht x hx, ht2 x hx]
      · exact ⟨n, a, hist, hn, ok, okh, hnet, ⟨hsz, hblk⟩, hpast, hcop, hbun, hwit, hplan, ⟨hcache.1, ck_ok ok he2 ht2⟩, hmv⟩
    · unfold wp_X8_time
      refine sp_has8 hn hsz (fun h => absurd ⟨x, hx, rfl⟩ h) (fun _ _ _ => br_f (by decide) (sp_findTimes8 hn ok hsz hblk hcache.2 (fun e2 t2 he2 ht2 => br_f c0 (br_f c1 (br_f c2 (br_t c3 (sp_weight8 hblk hn hx ⟨?_, ?_⟩)))))))
      · rw [ecl]; exact hnet.2.2.1 x hx
      · exact ⟨n, a, hist, hn, ok, okh, hnet, ⟨hsz, hblk⟩, hpast, hcop, hbun, hwit, hplan, ⟨hcache.1, ck_ok ok he2 ht2⟩, hmv⟩
    · unfold wp_X6_isCritical wp_X6_lateOf
      refine ⟨hin, hin, ?_⟩
      rw [ecl, he x hx, ht x hx]
      refine br_c (fun d => br_f (by decide) ?_) (fun d => br_t rfl ?_)
      · unfold wp_X8_time
        refine sp_has8 hn hsz (fun h => absurd ⟨x, hx, rfl⟩ h) (fun _ _ _ => br_f (by decide) (sp_findTimes8 hn ok hsz hblk hcache.2 (fun e2 t2 he2 ht2 => br_f c0 (br_f c1 (br_f c2 (br_f c3 (br_t c4 ?_)))))))
        unfold wp_X8_isCritical
        refine ⟨hin, hin, br_t ?_ (br_f (by decide) ⟨rfl, ?_⟩)⟩
        · rw [ecl, he2 x hx, ht2 x hx]; exact d
        · exact ⟨n, a, hist, hn, ok, okh, hnet, ⟨hsz, hblk⟩, hpast, hcop, hbun, hwit, hplan, ⟨hcache.1, ck_ok ok he2 ht2⟩, hmv⟩
      · unfold wp_X8_time
        refine sp_has8 hn hsz (fun h => absurd ⟨x, hx, rfl⟩ h) (fun _ _ _ => br_f (by decide) (sp_findTimes8 hn ok hsz hblk hcache.2 (fun e2 t2 he2 ht2 => br_f c0 (br_f c1 (br_f c2 (br_f c3 (br_t c4 ?_)))))))
        unfold wp_X8_isCritical
        refine ⟨hin, hin, br_f ?_ (br_t rfl ⟨rfl, ?_⟩)⟩
        · rw [ecl, he2 x hx, ht2 x hx]; exact d
        · exact ⟨n, a, hist, hn, ok, okh, hnet, ⟨hsz, hblk⟩, hpast, hcop, hbun, hwit, hplan, ⟨hcache.1, ck_ok ok he2 ht2⟩, hmv⟩
    · unfold wp_X8_time
      refine sp_has8 hn hsz (fun h => absurd ⟨x, hx, rfl⟩ h) (fun _ _ _ => br_f (by decide) (sp_findTimes8 hn ok hsz hblk hcache.2 (fun e2 t2 he2 ht2 => br_f c0 (br_f c1 (br_f c2 (br_f c3 (br_f c4 ⟨rfl, ?_⟩)))))))
      exact ⟨n, a, hist, hn, ok, okh, hnet, ⟨hsz, hblk⟩, hpast, hcop, hbun, hwit, hplan, ⟨hcache.1, ck_ok ok he2 ht2⟩, hmv⟩
