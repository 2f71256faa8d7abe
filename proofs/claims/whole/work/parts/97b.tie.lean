theorem rl_net_put {n x y : Nat} {a : An} {pl' : Nat → Nat} {tasks ties : Int32} {weight : Nat → Int32} {after before : Nat → Int64} {placeOf taskAt po ta : Nat → Int32} (hn : n ≤ 60) (h : rl_net n a tasks ties weight after before placeOf taskAt) (hx : x < n) (hy : y < n) (hE : a.2.1 x y = false) (hpo : ∀ t, t < n → po t = nI (pl' t)) (hta : ∀ t, t < n → ta (pl' t) = nI t) : rl_net n (putA a x y pl') tasks (ties + 1) weight (vp_updL after x (after x ||| gb_shl 1 (nI y))) (vp_updL before y (before y ||| gb_shl 1 (nI x))) po ta := by
  refine ⟨h.1, ?_, h.2.2.1, fun u v hu hv => ?_, fun u v hu hv => ?_, hpo, hta⟩
  · rw [putA_cnt (by omega) (by omega) hE, h.2.1, nI_1]
  · show _ = if u = x ∧ v = y then true else a.2.1 u v
    by_cases e : u = x
    · rw [e, pk_uLs, bs_or, bs_one (by omega), h.2.2.2.1 x v (by omega) hv]
      by_cases e2 : v = y
      · rw [if_pos ⟨rfl, e2⟩, decide_eq_true e2, Bool.or_true]
      · rw [if_neg (fun g => e2 g.2), decide_eq_false e2, Bool.or_false]
    · rw [pk_uLn e, if_neg (fun g => e g.1)]
      exact h.2.2.2.1 u v hu hv
  · show _ = if u = x ∧ v = y then true else a.2.1 u v
    by_cases e : v = y
    · rw [e, pk_uLs, bs_or, bs_one (by omega), h.2.2.2.2.1 u y hu (by omega)]
      by_cases e2 : u = x
      · rw [if_pos ⟨e2, rfl⟩, decide_eq_true e2, Bool.or_true]
      · rw [if_neg (fun g => e2 g.1), decide_eq_false e2, Bool.or_false]
    · rw [pk_uLn e, if_neg (fun g => e g.2)]
      exact h.2.2.2.2.1 u v hu hv
theorem sp_bring {n x y : Nat} {a : An} {tasks ties : Int32} {weight : Nat → Int32} {after before : Nat → Int64} {placeOf taskAt : Nat → Int32} (hn : n ≤ 60) (ok : rl_ok n a) (h : rl_net n a tasks ties weight after before placeOf taskAt) (hx : x < n) (hy : y < n) {ml rl : Int32} {mr rr ra : Nat → Int32} {post : Int32 → Int32 → (Nat → Int64) → (Nat → Int64) → (Nat → Int32) → (Nat → Int32) → Int32 → (Nat → Int32) → Int32 → (Nat → Int32) → (Nat → Int32) → Prop}
    (h0 : a.2.1 x y = true → post 0 ties after before placeOf taskAt ml mr rl rr ra)
    (h2 : a.2.1 x y = false → Rch a.2.1 y x → ∀ r w, (∀ i, i ≤ dst a.2.1 x y → r i = nI (wk n a.2.1 x y i)) → post (-2) ties after before placeOf taskAt ml mr (nI (dst a.2.1 x y + 1)) r w)
    (h3 : a.2.1 x y = false → ¬ Rch a.2.1 y x → cntE a.2.1 60 = 400 → post (-1) ties after before placeOf taskAt ml mr rl rr ra)
    (h1 : a.2.1 x y = false → ¬ Rch a.2.1 y x → cntE a.2.1 60 < 400 → ∀ pl' ti af be po ta l r, isMend n a x y pl' → rl_net n (putA a x y pl') tasks ti weight af be po ta → post 1 ti af be po ta l r rl rr ra) : wp_X7_bring tasks ties after before placeOf taskAt ml mr rl rr ra (nI x) (nI y) post := by
  unfold wp_X7_bring
  have hcnt := ok.2.2.2.2
  refine sp_hasTie h (by omega) (by omega) (fun e => br_f (by decide) (h0 e)) (fun e => br_t rfl ?_)
  refine sp_leadsTo hn ok h hy hx (fun q => br_f (by decide) ?_) (fun q => br_t rfl ?_)
  · exact sp_find hn ok h hx hy q (fun r w hr => h2 e q r w hr)
  · rw [h.2.1, show (400 : Int32) = nI 400 from rfl]
    by_cases c : cntE a.2.1 60 < 400
    · refine br_t (nI_lt c (by omega)) (sp_mend hn ok h hx hy q (fun l r pl' po ta hm hpo hta => ?_))
      unfold wp_X2_putTie
      have hix : vp_in (nI x) 60 := vp_in_nI (by omega) (by omega)
      have hiy : vp_in (nI y) 60 := vp_in_nI (by omega) (by omega)
      refine ⟨hix, sp_bit ⟨hix, fun af eaf => ⟨hiy, sp_bit ⟨hiy, fun be ebe ti eti => ?_⟩⟩⟩⟩
      rw [nI_cl (by omega)] at eaf ebe
      refine h1 e q c pl' ti af be po ta l r hm ?_
      rw [eti, eaf, ebe, ← h.2.1]
      exact rl_net_put hn h hx hy e hpo hta
    · have e4 : cntE a.2.1 60 = 400 := by omega
      refine br_f (nI_nlt (by omega) (by omega)) ?_
      rw [← h.2.1]
      exact h3 e q e4
def mvd (p q : Nat → Nat) (n : Nat) : Nat := cntR (fun t => decide (p t ≠ q t)) n
theorem mvd_self {p q : Nat → Nat} : ∀ {n : Nat}, (∀ t, t < n → p t = q t) → mvd p q n = 0
  | 0, _ => rfl
  | n + 1, h => by
    have ih := mvd_self (n := n) (fun t ht => h t (by omega))
    show cntR _ (n + 1) = 0
    rw [cntR_f (by rw [h n (by omega)]; exact decide_eq_false (fun g => g rfl))]
    exact ih
theorem sp_moved {n : Nat} {p q : Nat → Nat} {tasks : Int32} {po ho : Nat → Int32} (hn : n ≤ 60) (hs : tasks = nI n) (h1 : ∀ t, t < n → po t = nI (p t) ∧ p t < n) (h2 : ∀ t, t < n → ho t = nI (q t) ∧ q t < n) {post : Int32 → Prop} (h : post (nI (mvd p q n))) : wp_X2_countMovedSince tasks po ho post := by
  subst hs
  unfold wp_X2_countMovedSince
  refine pk_loop (σ := Unit) (fun k i _ => lp_X2_countMovedSince_4 (nI n) po ho k (nI (mvd p q i)) (nI i) (fun x => post x)) (fun _ _ => True) n 0 () (Nat.zero_le n) trivial ?_ ?_
  · intro k _ _
    show lp_X2_countMovedSince_4 _ _ _ (k + 1) (nI (mvd p q n)) (nI n) _
    rw [lp_X2_countMovedSince_4]
    exact br_t (nI_le (Nat.le_refl n) (by omega)) h
  · intro k i _ hi _ ih
    show lp_X2_countMovedSince_4 _ _ _ (k + 1) (nI (mvd p q i)) (nI i) _
    rw [lp_X2_countMovedSince_4, nI_cl (by omega), (h1 i hi).1, (h2 i hi).1]
    have b1 := (h1 i hi).2
    have b2 := (h2 i hi).2
    have hin : vp_in (nI i) 60 := vp_in_nI (by omega) (by omega)
    refine br_f (nI_ge hi (by omega)) ⟨hin, hin, br_c (fun c z ez => ?_) (fun c u eu z ez => ?_)⟩
    · have e : p i = q i := nI_inj (by omega) (by omega) c
      have := ih () trivial
      rw [ez, nI_1]
      rw [show mvd p q (i + 1) = mvd p q i from cntR_f (by exact decide_eq_false (fun g => g e))] at this
      exact this
    · have := ih () trivial
      rw [ez, nI_1, eu, nI_1]
      rw [show mvd p q (i + 1) = mvd p q i + 1 from cntR_t (by exact decide_eq_true (fun g => c (by rw [g])))] at this
      exact this
theorem sp_msc8 {n f l : Nat} {a b : An} {size fc cc : Int32} {all all0 copies : Nat → Int32} (hn : n ≤ 60) (oka : rl_ok n a) (okb : rl_ok n b) (hs : size = nI n) (hf : f < 64) (hl : l ≤ 64) (hl0 : 0 < l) (e1 : fc = nI f) (e2 : cc = nI l) (hb : rl_blk n b all) (h0 : rl_blk n a all0) (hc : ∀ k, k < 3720 → copies (3720 * ((f + l - 1) % 64) + k) = all0 k) {post : Int32 → Prop} (h : post (nI (mvd b.2.2 a.2.2 n))) : wp_X8_movedSinceCopy size fc cc all copies post := by
  subst hs
  unfold wp_X8_movedSinceCopy
  intro x1 ex1
  rw [e1, e2, nI_add, show f + l = (f + l - 1) + 1 by omega, nI_pred, rem64 (by omega), nI_3720, show (3660 : Int32) = nI 3660 from rfl, nI_add] at ex1
  subst ex1
  have hm : (f + l - 1) % 64 < 64 := Nat.mod_lt _ (by omega)
  refine pk_loop (σ := Unit) (fun k i _ => lp_X8_movedSinceCopy_27 (nI n) all copies (nI (3720 * ((f + l - 1) % 64) + 3660)) k (nI (mvd b.2.2 a.2.2 i)) (nI i) (fun x => post x)) (fun _ _ => True) n 0 () (Nat.zero_le n) trivial ?_ ?_
  · intro k _ _
    show lp_X8_movedSinceCopy_27 _ _ _ _ (k + 1) (nI (mvd b.2.2 a.2.2 n)) (nI n) _
    rw [lp_X8_movedSinceCopy_27]
    exact br_t (nI_le (Nat.le_refl n) (by omega)) h
  · intro k i _ hi _ ih
    show lp_X8_movedSinceCopy_27 _ _ _ _ (k + 1) (nI (mvd b.2.2 a.2.2 i)) (nI i) _
    rw [lp_X8_movedSinceCopy_27, nI_add, nI_cl (by omega), Nat.add_assoc, hc _ (by omega), h0.2.2 i hi]
    have b1 := oka.2.2.1 i hi
    have b2 := okb.2.2.1 i hi
    refine br_f (nI_ge hi (by omega)) ⟨vp_in_nI (by omega) (by omega), sp_place8 hb hn hi (br_c (fun c z ez => ?_) (fun c u eu z ez => ?_))⟩
    · have e : a.2.2 i = b.2.2 i := nI_inj (by omega) (by omega) c
      have := ih () trivial
      rw [ez, nI_1]
      rw [show mvd b.2.2 a.2.2 (i + 1) = mvd b.2.2 a.2.2 i from cntR_f (by exact decide_eq_false (fun g => g e.symm))] at this
      exact this
    · have := ih () trivial
      rw [ez, nI_1, eu, nI_1]
      rw [show mvd b.2.2 a.2.2 (i + 1) = mvd b.2.2 a.2.2 i + 1 from cntR_t (by exact decide_eq_true (fun g => c (by rw [g])))] at this
      exact this
theorem sim_tie_ok : sim_tie Rel := by
  intro cs ms hR a1 a2 hc
  have hR0 := hR
  obtain ⟨n, a, hist, hn, ok, okh, hnet, ⟨hsz, hblk⟩, hpast, hcop, hbun, hwit, hplan, hcache, hmv⟩ := hR
  unfold wp_X7_tie
  refine sp_areTasks hn hnet.1 (fun h => br_t rfl ?_) (fun x y hx hy ex ey => br_f (by decide) ?_)
  · unfold wp_X8_tie
    exact sp_has8 hn hsz (fun _ => br_t rfl ⟨rfl, hR0⟩) (fun x hx ex => br_f (by decide) (sp_has8 hn hsz (fun _ => br_t rfl ⟨rfl, hR0⟩) (fun y hy ey => absurd ⟨x, y, hx, hy, ex, ey⟩ h)))
  · subst ex ey
    refine sp_hold ?_
    have hheld := rl_net_cpy hn ok hnet hc.1 hc.2.1 hc.2.2.1 hc.2.2.2.1 hc.2.2.2.2.1
    have hpl : ∀ t, t < n → cs.2.2.2.2.2.2.1 t = nI (a.2.2 t) ∧ a.2.2 t < n := fun t ht => ⟨hnet.2.2.2.2.2.1 t ht, ok.2.2.1 t ht⟩
    have hhp : ∀ t, t < n → (va_cpy cs.2.2.2.2.2.2.1 hc.2.2.2.1 0 0 60) t = nI (a.2.2 t) ∧ a.2.2 t < n := fun t ht => ⟨hheld.2.2.2.2.2.1 t ht, ok.2.2.1 t ht⟩
    have hsame : mvd a.2.2 a.2.2 n = 0 := mvd_self (fun _ _ => rfl)
    refine sp_bring hn ok hnet hx hy (fun e => ?_) (fun e q r w hr => ?_) (fun e q c => ?_) (fun e q c pl' ti af be po ta l r hm hnet2 => ?_)
    · unfold wp_X7_settle
      refine br_f (by decide) (sp_moved hn hnet.1 hpl hhp (br_t (by decide) ?_))
      rw [hsame]
      unfold wp_X8_tie
      refine sp_has8 hn hsz (fun h => absurd ⟨x, hx, rfl⟩ h) (fun _ _ _ => br_f (by decide) (sp_has8 hn hsz (fun h => absurd ⟨y, hy, rfl⟩ h) (fun _ _ _ => br_f (by decide) (sp_tied8 hblk (by omega) (by omega) (fun _ => br_f (by decide) ⟨rfl, ?_⟩) (fun e2 => absurd (e2.symm.trans e) (by decide))))))
      exact ⟨n, a, hist, hn, ok, okh, hnet, ⟨hsz, hblk⟩, hpast, hcop, hbun, hwit, hplan, hcache, rfl⟩
    · unfold wp_X7_settle
      refine br_f (by decide) (sp_moved hn hnet.1 hpl hhp (br_t (by decide) ?_))
      rw [hsame]
      unfold wp_X8_tie
      refine sp_has8 hn hsz (fun h => absurd ⟨x, hx, rfl⟩ h) (fun _ _ _ => br_f (by decide) (sp_has8 hn hsz (fun h => absurd ⟨y, hy, rfl⟩ h) (fun _ _ _ => br_f (by decide) (sp_tied8 hblk (by omega) (by omega) (fun e2 => absurd (e2.symm.trans e) (by decide)) (fun _ => br_t rfl (sp_doesReach8 hn ok hsz hblk hcache.1 hy hx (fun _ r2 hr2 => br_f (by decide) (sp_findWitness8 hn ok hsz hblk hx hy q (fun w2 f2 hw2 => ⟨rfl, ?_⟩))) (fun q2 => absurd q q2)))))))
      have := dst_b ok q
      have := ok.2.2.1 x hx
      exact ⟨n, a, hist, hn, ok, okh, hnet, ⟨hsz, hblk⟩, hpast, hcop, hbun, ⟨dst a.2.1 x y + 1, by omega, rfl, rfl, fun i hi => (hr i (by omega)).trans (hw2 i (by omega)).symm⟩, hplan, ⟨Or.inr ⟨rfl, hr2⟩, hcache.2⟩, rfl⟩
    · unfold wp_X7_settle
      refine br_t rfl ?_
      unfold wp_X8_tie
      refine sp_has8 hn hsz (fun h => absurd ⟨x, hx, rfl⟩ h) (fun _ _ _ => br_f (by decide) (sp_has8 hn hsz (fun h => absurd ⟨y, hy, rfl⟩ h) (fun _ _ _ => br_f (by decide) (sp_tied8 hblk (by omega) (by omega) (fun e2 => absurd (e2.symm.trans e) (by decide)) (fun _ => br_t rfl (sp_doesReach8 hn ok hsz hblk hcache.1 hy hx (fun q2 => absurd q2 q) (fun _ r2 hr2 => br_t rfl (sp_ties8 hblk (br_t (by rw [c]; rfl) ⟨rfl, ?_⟩)))))))))
      exact ⟨n, a, hist, hn, ok, okh, hnet, ⟨hsz, hblk⟩, hpast, hcop, hbun, hwit, hplan, ⟨Or.inr ⟨rfl, hr2⟩, hcache.2⟩, hmv⟩
    · unfold wp_X7_settle
      have ok2 := rl_ok_put hn ok hx hy e q c hm
      refine br_f (by decide) (sp_moved (p := pl') hn hnet.1 (fun t ht => ⟨hnet2.2.2.2.2.2.1 t ht, ok2.2.2.1 t ht⟩) hhp (br_f (by decide) (sp_keep hpast hheld (fun rem' next' K' z hp2 => ?_))))
      unfold wp_X8_tie
      refine sp_has8 hn hsz (fun h => absurd ⟨x, hx, rfl⟩ h) (fun _ _ _ => br_f (by decide) (sp_has8 hn hsz (fun h => absurd ⟨y, hy, rfl⟩ h) (fun _ _ _ => br_f (by decide) (sp_tied8 hblk (by omega) (by omega) (fun e2 => absurd (e2.symm.trans e) (by decide)) (fun _ => br_t rfl (sp_doesReach8 hn ok hsz hblk hcache.1 hy hx (fun q2 => absurd q2 q) (fun _ r2 hr2 => br_t rfl (sp_ties8 hblk (br_f ?_ ?_)))))))))
      · rw [show (400 : Int32) = nI 400 from rfl]
        intro g
        have := nI_inj (by omega) (by omega) g
        omega
      · refine sp_keep8 hn hpast.1 hcop hblk (fun fc' cc' copies' hc2 hlast => sp_come8 hn ok hsz hblk (Or.inr ⟨rfl, hr2⟩) hx hy q hm (fun al r3 w3 k3 hblk2 => ?_))
        obtain ⟨f, l2, hf, ef, hl2, hl0, el2, hlast⟩ := hlast
        refine sp_msc8 hn ok ok2 hsz hf hl2 hl0 ef el2 hblk2 hblk hlast ⟨rfl, ?_⟩
        exact ⟨n, putA a x y pl', (a :: hist).take 64, hn, ok2, take_ok ok okh, hnet2, ⟨hsz, hblk2⟩, hp2, hc2, hbun, hwit, hplan, ⟨Or.inl rfl, Or.inl rfl⟩, rfl⟩
