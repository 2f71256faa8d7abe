theorem sp_isWeight {a : Int32} {post : Int32 → Prop} (h0 : a < 0 ∨ 1000 < a → post 0) (h1 : ∀ w, w ≤ 1000 → a = nI w → post 1) : wp_X7_isWeight a post := by
  unfold wp_X7_isWeight
  refine br_c (fun c => h0 (Or.inl c)) (fun c => br_c (fun c2 => h0 (Or.inr c2)) (fun c2 => ?_))
  obtain ⟨w, hw, e⟩ := nI_of2 (M := 1000) (n := 1000) (by decide) c (k2_le c2)
  exact h1 w hw e
theorem wt_ok {w : Nat} (hw : w ≤ 1000) : ¬ (nI w < 0) ∧ ¬ ((1000 : Int32) < nI w) := ⟨nI_pos (by omega), by
  rw [show (1000 : Int32) = nI 1000 from rfl]; exact nI_nlt hw (by omega)⟩
theorem sim_gather_ok : sim_gather Rel := by
  intro cs ms hR a1 a2
  have hR0 := hR
  obtain ⟨n, a, hist, hn, ok, okh, hnet, ⟨hsz, hblk⟩, hpast, hcop, ⟨nb, hnb, e1, e2, hb⟩, hwit, hplan, hcache, hmv⟩ := hR
  unfold wp_X7_gather
  refine sp_areTasks hn hnet.1 (fun h => br_t rfl ?_) (fun x y hx hy ex ey => br_f (by decide) ?_)
  · unfold wp_X8_gather
    exact sp_has8 hn hsz (fun _ => br_t rfl ⟨rfl, hR0⟩) (fun x hx ex => br_f (by decide) (sp_has8 hn hsz (fun _ => br_t rfl ⟨rfl, hR0⟩) (fun y hy ey => absurd ⟨x, y, hx, hy, ex, ey⟩ h)))
  · subst ex ey
    by_cases hlt : nb < 100
    · have c1 : nI nb < (100 : Int32) := by rw [show (100 : Int32) = nI 100 from rfl]; exact nI_lt hlt (by omega)
      refine br_t (by rw [e1]; exact c1) ?_
      unfold wp_X0_add
      have hin : vp_in (nI nb) 100 := vp_in_nI hlt (by omega)
      refine ⟨by rw [e1]; exact hin, fun f1 ef1 => ⟨by rw [e1]; exact hin, fun t1 et1 s1 es1 => ?_⟩⟩
      unfold wp_X8_gather
      refine sp_has8 hn hsz (fun h => absurd ⟨x, hx, rfl⟩ h) (fun _ _ _ => br_f (by decide) (sp_has8 hn hsz (fun h => absurd ⟨y, hy, rfl⟩ h) (fun _ _ _ => br_f (by decide) (br_f ?_ ⟨by rw [e2]; exact hin, fun f2 ef2 => ⟨by rw [e2]; exact hin, fun t2 et2 s2 es2 => ?_⟩⟩))))
      · rw [e2, show (100 : Int32) = nI 100 from rfl, nI_eq (by omega) (by omega)]; omega
      · have k1 : s1 = nI (nb + 1) := by rw [es1, e1, nI_1]
        have k2 : s2 = nI (nb + 1) := by rw [es2, e2, nI_1]
        refine ⟨by rw [k1, k2], n, a, hist, hn, ok, okh, hnet, ⟨hsz, hblk⟩, hpast, hcop, ⟨nb + 1, by omega, k1, k2, fun i hi => ?_⟩, hwit, hplan, hcache, hmv⟩
        show f1 i = f2 i ∧ t1 i = t2 i ∧ ∃ u v, u < n ∧ v < n ∧ f1 i = nI u ∧ t1 i = nI v
        rw [ef1, ef2, et1, et2, e1, e2, nI_cl (by omega)]
        by_cases hin2 : i = nb
        · subst hin2
          rw [pk_us, pk_us, pk_us, pk_us]
          exact ⟨rfl, rfl, x, y, hx, hy, rfl, rfl⟩
        · rw [pk_un hin2, pk_un hin2, pk_un hin2, pk_un hin2]
          exact hb i (by omega)
    · have h100 : nb = 100 := by omega
      subst h100
      refine br_f (by rw [e1, show (100 : Int32) = nI 100 from rfl]; exact nI_nlt (Nat.le_refl _) (by omega)) ?_
      unfold wp_X8_gather
      exact sp_has8 hn hsz (fun h => absurd ⟨x, hx, rfl⟩ h) (fun _ _ _ => br_f (by decide) (sp_has8 hn hsz (fun h => absurd ⟨y, hy, rfl⟩ h) (fun _ _ _ => br_f (by decide) (br_t (by rw [e2]; rfl) ⟨rfl, hR0⟩))))
theorem rl_ok_task {n w : Nat} {a : An} (h : rl_ok n a) (hn : n < 60) (hw : w ≤ 1000) : rl_ok (n + 1) ((fun x => if x = n then w else a.1 x), a.2.1, (fun x => if x = n then n else a.2.2 x)) := by
  obtain ⟨h1, h2, h3, h4, h5⟩ := h
  refine ⟨fun x hx => ?_, fun x y hxy => ?_, fun x hx => ?_, fun x y hx hy e => ?_, h5⟩
  · dsimp only
    by_cases e : x = n
    · rw [if_pos e]; exact hw
    · rw [if_neg e]; exact h1 x (by omega)
  · obtain ⟨hx, hy, hl⟩ := h2 x y hxy
    dsimp only
    rw [if_neg (by omega), if_neg (by omega)]
    exact ⟨by omega, by omega, hl⟩
  · dsimp only
    by_cases e : x = n
    · rw [if_pos e]; omega
    · rw [if_neg e]; have := h3 x (by omega); omega
  · dsimp only at e
    by_cases e1 : x = n <;> by_cases e2 : y = n
    · omega
    · rw [if_pos e1, if_neg e2] at e; have := h3 y (by omega); omega
    · rw [if_neg e1, if_pos e2] at e; have := h3 x (by omega); omega
    · rw [if_neg e1, if_neg e2] at e; exact h4 x y (by omega) (by omega) e
theorem rl_net_task {n w : Nat} {a : An} {tasks ties : Int32} {weight : Nat → Int32} {after before : Nat → Int64} {placeOf taskAt : Nat → Int32} (ok : rl_ok n a) (h : rl_net n a tasks ties weight after before placeOf taskAt) : rl_net (n + 1) ((fun x => if x = n then w else a.1 x), a.2.1, (fun x => if x = n then n else a.2.2 x)) (nI (n + 1)) ties (upd weight n (nI w)) after before (upd placeOf n (nI n)) (upd taskAt n (nI n)) := by
  obtain ⟨h1, h2, h3, h4, h5, h6, h7⟩ := h
  refine ⟨rfl, h2, fun x hx => ?_, h4, h5, fun x hx => ?_, fun x hx => ?_⟩
  · dsimp only
    by_cases e : x = n
    · rw [if_pos e, e, pk_us]
    · rw [if_neg e, pk_un e]; exact h3 x (by omega)
  · dsimp only
    by_cases e : x = n
    · rw [if_pos e, e, pk_us]
    · rw [if_neg e, pk_un e]; exact h6 x (by omega)
  · dsimp only
    by_cases e : x = n
    · rw [if_pos e, e, pk_us]
    · rw [if_neg e]
      have := ok.2.2.1 x (by omega)
      rw [pk_un (by omega)]; exact h7 x (by omega)
theorem rl_blk_task {n w : Nat} {a : An} {all : Nat → Int32} (hn : n < 60) (h : rl_blk n a all) : rl_blk (n + 1) ((fun x => if x = n then w else a.1 x), a.2.1, (fun x => if x = n then n else a.2.2 x)) (upd (upd all (3600 + n) (nI w)) (3660 + n) (nI n)) := by
  obtain ⟨h1, h2, h3⟩ := h
  refine ⟨fun x y hx hy => ?_, fun x hx => ?_, fun x hx => ?_⟩
  · rw [pk_un (by omega), pk_un (by omega)]; exact h1 x y hx hy
  · dsimp only
    rw [pk_un (by omega)]
    by_cases e : x = n
    · rw [if_pos e, e, pk_us]
    · rw [if_neg e, pk_un (by omega)]; exact h2 x (by omega)
  · dsimp only
    by_cases e : x = n
    · rw [if_pos e, e, pk_us]
    · rw [if_neg e, pk_un (by omega), pk_un (by omega)]; exact h3 x (by omega)
theorem sim_task_ok : sim_task Rel := by
  intro cs ms hR a1
  have hR0 := hR
  obtain ⟨n, a, hist, hn, ok, okh, hnet, ⟨hsz, hblk⟩, hpast, hcop, hbun, hwit, hplan, hcache, hmv⟩ := hR
  unfold wp_X7_task
  refine sp_isWeight (fun h => br_t rfl ?_) (fun w hw ew => br_f (by decide) ?_)
  · unfold wp_X8_task
    exact br_c (fun c => ⟨rfl, hR0⟩) (fun c => br_c (fun c2 => ⟨rfl, hR0⟩) (fun c2 => absurd h (fun q => q.elim c c2)))
  · subst ew
    by_cases hlt : n < 60
    · have c1 : nI n < (60 : Int32) := by rw [show (60 : Int32) = nI 60 from rfl]; exact nI_lt hlt (by omega)
      refine br_t (by rw [hnet.1]; exact c1) ?_
      unfold wp_X3_forget wp_X2_addTask
      have hin : vp_in (nI n) 60 := vp_in_nI hlt (by omega)
      refine ⟨by rw [hnet.1]; exact hin, fun w1 ew1 => ⟨by rw [hnet.1]; exact hin, fun p1 ep1 => ⟨by rw [hnet.1]; exact hin, fun t1 et1 s1 es1 => ?_⟩⟩⟩
      unfold wp_X8_task
      refine br_f (wt_ok hw).1 (br_f (wt_ok hw).2 (br_f ?_ ⟨by rw [hsz, nI_3600]; exact vp_in_nI (by omega) (by omega), fun b1 eb1 => ⟨by rw [hsz, nI_3660]; exact vp_in_nI (by omega) (by omega), fun b2 eb2 s2 es2 => ?_⟩⟩))
      · rw [hsz, show (60 : Int32) = nI 60 from rfl, nI_eq (by omega) (by omega)]; omega
      · unfold wp_X8_changed
        have k1 : s1 = nI (n + 1) := by rw [es1, hnet.1, nI_1]
        have k2 : s2 = nI (n + 1) := by rw [es2, hsz, nI_1]
        rw [hnet.1, nI_cl (by omega)] at ew1 ep1 et1
        rw [hsz, nI_3600, nI_cl (by omega)] at eb1
        rw [hsz, nI_3660, nI_cl (by omega), eb1] at eb2
        refine ⟨?_, n + 1, ((fun x => if x = n then w else a.1 x), a.2.1, (fun x => if x = n then n else a.2.2 x)), [], by omega, rl_ok_task ok hlt hw, (fun h q => by cases q), ?_, ⟨k2, ?_⟩, ?_, ?_, ?_, hwit, hplan, ⟨Or.inl rfl, Or.inl rfl⟩, hmv⟩
        · rw [hnet.1, k2, nI_pred]
        · show rl_net _ _ s1 _ w1 _ _ p1 t1
          rw [k1, ew1, ep1, et1]; exact rl_net_task ok hnet
        · show rl_blk _ _ b2
          rw [eb2]; exact rl_blk_task hlt hblk
        · obtain ⟨-, -, nx, hnx, enx, -⟩ := hpast
          exact ⟨by simp, rfl, nx, hnx, enx, fun i h q => by simp at q⟩
        · obtain ⟨-, fc, hfc, efc, -⟩ := hcop
          exact ⟨rfl, fc, hfc, efc, fun i h q => by simp at q⟩
        · obtain ⟨nb, hnb, e1, e2, hb⟩ := hbun
          exact ⟨nb, hnb, e1, e2, fun i hi => by
            obtain ⟨q1, q2, u, v, hu, hv, q3, q4⟩ := hb i hi
            exact ⟨q1, q2, u, v, by omega, by omega, q3, q4⟩⟩
    · have h60 : n = 60 := by omega
      subst h60
      refine br_f (by rw [hnet.1, show (60 : Int32) = nI 60 from rfl]; exact nI_nlt (Nat.le_refl _) (by omega)) ?_
      unfold wp_X8_task
      exact br_f (wt_ok hw).1 (br_f (wt_ok hw).2 (br_t (by rw [hsz]; rfl) ⟨rfl, hR0⟩))
