def sumN (h : Nat → Nat) : Nat → Nat
  | 0 => 0
  | k + 1 => sumN h k + h k
theorem sumN_le {h g : Nat → Nat} : ∀ {k : Nat}, (∀ x, x < k → h x ≤ g x) → sumN h k ≤ sumN g k
  | 0, _ => Nat.le_refl 0
  | k + 1, q => by
    have ih := sumN_le (k := k) (fun x hx => q x (by omega))
    have := q k (by omega)
    unfold sumN
    omega
theorem sumN_lt {h g : Nat → Nat} {j : Nat} : ∀ {k : Nat}, (∀ x, x < k → h x ≤ g x) → j < k → h j < g j → sumN h k < sumN g k
  | 0, _, hj, _ => absurd hj (by omega)
  | k + 1, q, hj, hl => by
    have ih := sumN_le (k := k) (fun x hx => q x (by omega))
    have := q k (by omega)
    unfold sumN
    by_cases e : j = k
    · subst e; omega
    · have := sumN_lt (k := k) (fun x hx => q x (by omega)) (by omega) hl
      omega
theorem sumN_congr {h g : Nat → Nat} : ∀ {k : Nat}, (∀ x, x < k → h x = g x) → sumN h k = sumN g k
  | 0, _ => rfl
  | k + 1, q => by
    unfold sumN
    rw [sumN_congr (k := k) (fun x hx => q x (by omega)), q k (by omega)]
def fRT (n : Nat) (a : An) (e t : Nat → Nat) (early tails : Nat → Int32) : Prop := ∀ x, x < n → early x = nI (e x) ∧ tails x = nI (t x) ∧ e x ≤ Ea n a x ∧ t x ≤ Ta n a x ∧ a.1 x ≤ t x
def fmu (n : Nat) (a : An) (e t : Nat → Nat) : Nat := sumN (fun x => (Ea n a x - e x) + (Ta n a x - t x)) n
def fE (early : Nat → Int32) (x y : Nat) (L : Int32) (w : Int32) : Nat → Int32 := upd early y (if L = 0 then early y else early x + w)
def fT (tails : Nat → Int32) (x y : Nat) (G : Int32) (w : Int32) : Nat → Int32 := upd tails x (if G = 0 then tails x else tails y + w)
theorem fU {n x y : Nat} {a : An} {e t : Nat → Nat} {early tails : Nat → Int32} {L G : Int32} (ok : rl_ok n a) (hx : x < n) (hy : y < n) (hr : fRT n a e t early tails) (hL : L ≠ 0 → a.2.1 x y = true ∧ e y < e x + a.1 x) (hG : G ≠ 0 → a.2.1 x y = true ∧ t x < t y + a.1 x) : ∃ e' t', fRT n a e' t' (fE early x y L (nI (a.1 x))) (fT tails x y G (nI (a.1 x))) ∧ fmu n a e' t' ≤ fmu n a e t ∧ (L ≠ 0 ∨ G ≠ 0 → fmu n a e' t' < fmu n a e t) := by
  have hEa := isEarly_Ea ok
  have hTa := isTail_Ta ok
  have b1 : ∀ w, w < n → e w ≤ (if w = y ∧ L ≠ 0 then e x + a.1 x else e w) ∧ (if w = y ∧ L ≠ 0 then e x + a.1 x else e w) ≤ Ea n a w := by
    intro w hw
    by_cases q : w = y ∧ L ≠ 0
    · rw [if_pos q]
      obtain ⟨h1, h2⟩ := hL q.2
      have := hEa.1 x y h1
      have := (hr x hx).2.2.1
      rw [q.1]
      omega
    · rw [if_neg q]
      exact ⟨Nat.le_refl _, (hr w hw).2.2.1⟩
  have b2 : ∀ w, w < n → t w ≤ (if w = x ∧ G ≠ 0 then t y + a.1 x else t w) ∧ (if w = x ∧ G ≠ 0 then t y + a.1 x else t w) ≤ Ta n a w := by
    intro w hw
    by_cases q : w = x ∧ G ≠ 0
    · rw [if_pos q]
      obtain ⟨h1, h2⟩ := hG q.2
      have := hTa.1 x y h1
      have := (hr y hy).2.2.2.1
      rw [q.1]
      omega
    · rw [if_neg q]
      exact ⟨Nat.le_refl _, (hr w hw).2.2.2.1⟩
  refine ⟨fun w => if w = y ∧ L ≠ 0 then e x + a.1 x else e w, fun w => if w = x ∧ G ≠ 0 then t y + a.1 x else t w, fun w hw => ⟨?_, ?_, (b1 w hw).2, (b2 w hw).2, ?_⟩, sumN_le (fun w hw => ?_), fun q => ?_⟩
  · unfold fE
    dsimp only
    by_cases q : w = y
    · subst q
      rw [pk_us]
      by_cases q2 : L = 0
      · rw [if_pos q2, if_neg (fun z => z.2 q2)]; exact (hr w hw).1
      · rw [if_neg q2, if_pos ⟨rfl, q2⟩, (hr x hx).1, nI_add]
    · rw [pk_un q, if_neg (fun z => q z.1)]; exact (hr w hw).1
  · unfold fT
    dsimp only
    by_cases q : w = x
    · subst q
      rw [pk_us]
      by_cases q2 : G = 0
      · rw [if_pos q2, if_neg (fun z => z.2 q2)]; exact (hr w hw).2.1
      · rw [if_neg q2, if_pos ⟨rfl, q2⟩, (hr y hy).2.1, nI_add]
    · rw [pk_un q, if_neg (fun z => q z.1)]; exact (hr w hw).2.1
  · dsimp only
    have := (b2 w hw).1
    have := (hr w hw).2.2.2.2
    omega
  · dsimp only
    have := b1 w hw
    have := b2 w hw
    omega
  · have key : ∀ w, w < n → (Ea n a w - (if w = y ∧ L ≠ 0 then e x + a.1 x else e w)) + (Ta n a w - (if w = x ∧ G ≠ 0 then t y + a.1 x else t w)) ≤ (Ea n a w - e w) + (Ta n a w - t w) := by
      intro w hw
      have := b1 w hw
      have := b2 w hw
      omega
    rcases q with q | q
    · refine sumN_lt (j := y) key hy ?_
      dsimp only
      have h1 := b1 y hy
      have h2 := b2 y hy
      have h3 := (hL q).2
      rw [if_pos ⟨rfl, q⟩] at h1 ⊢
      omega
    · refine sumN_lt (j := x) key hx ?_
      dsimp only
      have h1 := b1 x hx
      have h2 := b2 x hx
      have h3 := (hG q).2
      rw [if_pos ⟨rfl, q⟩] at h2
      rw [if_pos (show x = x ∧ G ≠ 0 from ⟨rfl, q⟩)]
      omega
/-- one pass of the reference, from e0, t0: nothing has changed and the pairs looked at are in order, or it has come nearer -/
def fI (n : Nat) (a : An) (e0 t0 : Nat → Nat) (Pr : Nat → Nat → Prop) (early tails : Nat → Int32) (m : Int32) : Prop :=
  (m = 0 ∧ fRT n a e0 t0 early tails ∧ ∀ x y, Pr x y → a.2.1 x y = true → e0 x + a.1 x ≤ e0 y ∧ t0 y + a.1 x ≤ t0 x) ∨ (m = 1 ∧ ∃ e t, fRT n a e t early tails ∧ fmu n a e t < fmu n a e0 t0)
theorem ft_147 {n x y : Nat} {a : An} {all : Nat → Int32} (hn : n ≤ 60) (hb : rl_blk n a all) (hx : x < n) (hy : y < n) {early tails : Nat → Int32} {m L G : Int32} {kh : (Nat → Int32) → (Nat → Int32) → Int32 → Int32 → Prop} (h : kh (fE early x y L (nI (a.1 x))) (fT tails x y G (nI (a.1 x))) (if m = 0 ∧ L = 0 ∧ G = 0 then 0 else 1) (nI (y + 1))) : jp_X8_findTimes_147 all early tails m (nI x) (nI y) L G kh := by
  have hix : vp_in (nI x) 60 := vp_in_nI (by omega) (by omega)
  have hiy : vp_in (nI y) 60 := vp_in_nI (by omega) (by omega)
  have ex : (nI x).toNatClampNeg = x := nI_cl (by omega)
  have ey : (nI y).toNatClampNeg = y := nI_cl (by omega)
  have k212 : ∀ (early' : Nat → Int32) (s0 : Int32), early' = fE early x y L (nI (a.1 x)) → s0 = (if G = 0 then tails x else tails y + nI (a.1 x)) → jp_X8_findTimes_212 early' tails m (nI x) (nI y) L G s0 (nI x) kh := by
    intro early' s0 e1 e2
    unfold jp_X8_findTimes_212
    refine ⟨hix, fun t et => ?_⟩
    rw [ex, e2] at et
    have et : t = fT tails x y G (nI (a.1 x)) := et
    subst e1
    subst et
    refine br_c (fun c1 => br_c (fun c2 => br_c (fun c3 z ez => ?_) (fun c3 z ez => ?_)) (fun c2 z ez => ?_)) (fun c1 z ez => ?_)
    · rw [ez, nI_1]; rw [if_pos ⟨c1, c2, c3⟩] at h; exact h
    · rw [ez, nI_1]; rw [if_neg (fun q => c3 q.2.2)] at h; exact h
    · rw [ez, nI_1]; rw [if_neg (fun q => c2 q.2.1)] at h; exact h
    · rw [ez, nI_1]; rw [if_neg (fun q => c1 q.1)] at h; exact h
  have k180 : ∀ (s0 : Int32), s0 = (if L = 0 then early y else early x + nI (a.1 x)) → jp_X8_findTimes_180 all early tails m (nI x) (nI y) L G s0 (nI y) kh := by
    intro s0 e1
    unfold jp_X8_findTimes_180
    refine ⟨hiy, fun e2 ee2 => ?_⟩
    rw [ey, e1] at ee2
    have ee2 : e2 = fE early x y L (nI (a.1 x)) := ee2
    refine br_c (fun c => ⟨hix, k212 e2 _ ee2 ?_⟩) (fun c => ⟨hiy, sp_weight8 hb hn hx (k212 e2 _ ee2 ?_)⟩)
    · rw [if_pos c, ex]
    · rw [if_neg c, ey]
  unfold jp_X8_findTimes_147
  refine br_c (fun c => ⟨hiy, k180 _ ?_⟩) (fun c => ⟨hix, sp_weight8 hb hn hx (k180 _ ?_)⟩)
  · rw [if_pos c, ey]
  · rw [if_neg c, ex]
theorem ft_110 {n x y : Nat} {a : An} {all : Nat → Int32} (hn : n ≤ 60) (ok : rl_ok n a) (hb : rl_blk n a all) (hx : x < n) (hy : y < n) {e t : Nat → Nat} {early tails : Nat → Int32} (hr : fRT n a e t early tails) {m L : Int32} {kh : (Nat → Int32) → (Nat → Int32) → Int32 → Int32 → Prop} (h : ∀ G : Int32, (G ≠ 0 → a.2.1 x y = true ∧ t x < t y + a.1 x) → (G = 0 → a.2.1 x y = true → t y + a.1 x ≤ t x) → kh (fE early x y L (nI (a.1 x))) (fT tails x y G (nI (a.1 x))) (if m = 0 ∧ L = 0 ∧ G = 0 then 0 else 1) (nI (y + 1))) : jp_X8_findTimes_110 all early tails m (nI x) (nI y) L kh := by
  have bx := Ta_b ok hn hx
  have by_ := Ta_b ok hn hy
  have hrx := hr x hx
  have hry := hr y hy
  have hw := ok.1 x hx
  unfold jp_X8_findTimes_110
  refine sp_tied8 hb (by omega) (by omega) (fun q => br_f (by decide) ⟨vp_in_nI (by omega) (by omega), sp_weight8 hb hn hx ⟨vp_in_nI (by omega) (by omega), ?_⟩⟩) (fun q => br_t rfl ?_)
  · rw [nI_cl (by omega), nI_cl (by omega), hry.2.1, hrx.2.1, nI_add]
    refine br_c (fun c => ?_) (fun c => ?_)
    · have c2 := (nI_leI (by omega) (by omega)).mp c
      unfold jp_X8_findTimes_146
      exact ft_147 hn hb hx hy (h 0 (fun z => absurd rfl z) (fun _ _ => c2))
    · have c2 : ¬ (t y + a.1 x ≤ t x) := fun z => c ((nI_leI (by omega) (by omega)).mpr z)
      exact ft_147 hn hb hx hy (h 1 (fun _ => ⟨q, by omega⟩) (fun z => absurd z (by decide)))
  · unfold jp_X8_findTimes_146
    exact ft_147 hn hb hx hy (h 0 (fun z => absurd rfl z) (fun _ z => by rw [q] at z; cases z))
theorem ft_67 {n x : Nat} {a : An} {all : Nat → Int32} (hn : n ≤ 60) (ok : rl_ok n a) (hb : rl_blk n a all) (hx : x < n) {e0 t0 : Nat → Nat} {Pr : Nat → Nat → Prop} {early tails : Nat → Int32} {m : Int32} (hI : fI n a e0 t0 Pr early tails m) {kx : (Nat → Int32) → (Nat → Int32) → Int32 → Prop} (hk : ∀ early' tails' m', fI n a e0 t0 (fun u v => Pr u v ∨ u = x) early' tails' m' → kx early' tails' m') : ∃ k, lp_X8_findTimes_67 (nI n) all (nI x) k early tails m 0 kx := by
  refine pk_loop (σ := (Nat → Int32) × (Nat → Int32) × Int32) (fun k y s => lp_X8_findTimes_67 (nI n) all (nI x) k s.1 s.2.1 s.2.2 (nI y) kx) (fun y s => fI n a e0 t0 (fun u v => Pr u v ∨ (u = x ∧ v < y)) s.1 s.2.1 s.2.2) n 0 (early, tails, m) (Nat.zero_le n) ?_ ?_ ?_
  · rcases hI with ⟨h1, h2, h3⟩ | h
    · exact Or.inl ⟨h1, h2, fun u v p => p.elim (h3 u v) (fun p => absurd p.2 (by omega))⟩
    · exact Or.inr h
  · rintro k ⟨e1, t1, m1⟩ hJ
    show lp_X8_findTimes_67 _ _ _ (k + 1) e1 t1 m1 (nI n) _
    rw [lp_X8_findTimes_67]
    refine br_t (nI_le (Nat.le_refl n) (by omega)) (hk e1 t1 m1 ?_)
    rcases hJ with ⟨h1, h2, h3⟩ | h
    · exact Or.inl ⟨h1, h2, fun u v p q => p.elim (fun p => h3 u v (Or.inl p) q) (fun p => h3 u v (Or.inr ⟨p, (ok.2.1 u v q).2.1⟩) q)⟩
    · exact Or.inr h
  · rintro k y ⟨e1, t1, m1⟩ hy hJ ih
    replace hJ : fI n a e0 t0 (fun u v => Pr u v ∨ (u = x ∧ v < y)) e1 t1 m1 := hJ
    show lp_X8_findTimes_67 _ _ _ (k + 1) e1 t1 m1 (nI y) _
    rw [lp_X8_findTimes_67]
    obtain ⟨e, t, hr, hm⟩ : ∃ e t, fRT n a e t e1 t1 ∧ ((m1 = 0 ∧ e = e0 ∧ t = t0 ∧ ∀ u v, (Pr u v ∨ (u = x ∧ v < y)) → a.2.1 u v = true → e0 u + a.1 u ≤ e0 v ∧ t0 v + a.1 u ≤ t0 u) ∨ (m1 = 1 ∧ fmu n a e t < fmu n a e0 t0)) := by
      rcases hJ with ⟨h1, h2, h3⟩ | ⟨h1, e, t, h2, h3⟩
      · exact ⟨e0, t0, h2, Or.inl ⟨h1, rfl, rfl, h3⟩⟩
      · exact ⟨e, t, h2, Or.inr ⟨h1, h3⟩⟩
    have fin : ∀ L G : Int32, (L ≠ 0 → a.2.1 x y = true ∧ e y < e x + a.1 x) → (L = 0 → a.2.1 x y = true → e x + a.1 x ≤ e y) → (G ≠ 0 → a.2.1 x y = true ∧ t x < t y + a.1 x) → (G = 0 → a.2.1 x y = true → t y + a.1 x ≤ t x) → lp_X8_findTimes_67 (nI n) all (nI x) k (fE e1 x y L (nI (a.1 x))) (fT t1 x y G (nI (a.1 x))) (if m1 = 0 ∧ L = 0 ∧ G = 0 then 0 else 1) (nI (y + 1)) kx := by
      intro L G hL hL0 hG hG0
      obtain ⟨e', t', hr', hle, hlt⟩ := fU ok hx hy hr hL hG
      refine ih (fE e1 x y L (nI (a.1 x)), fT t1 x y G (nI (a.1 x)), if m1 = 0 ∧ L = 0 ∧ G = 0 then 0 else 1) ?_
      show fI n a e0 t0 _ _ _ _
      by_cases q : m1 = 0 ∧ L = 0 ∧ G = 0
      · rw [if_pos q]
        rcases hm with ⟨-, he, ht, h3⟩ | ⟨h1, -⟩
        · subst he ht
          refine Or.inl ⟨rfl, fun w hw => ?_, fun u v p z => ?_⟩
          · have hw' := hr w hw
            refine ⟨?_, ?_, hw'.2.2⟩
            · show fE e1 x y L (nI (a.1 x)) w = _
              unfold fE
              by_cases z : w = y
              · subst z; rw [pk_us, if_pos q.2.1]; exact hw'.1
              · rw [pk_un z]; exact hw'.1
            · show fT t1 x y G (nI (a.1 x)) w = _
              unfold fT
              by_cases z : w = x
              · subst z; rw [pk_us, if_pos q.2.2]; exact hw'.2.1
              · rw [pk_un z]; exact hw'.2.1
          · rcases p with p | ⟨p1, p2⟩
            · exact h3 u v (Or.inl p) z
            · by_cases pv : v = y
              · subst p1 pv
                exact ⟨hL0 q.2.1 z, hG0 q.2.2 z⟩
              · exact h3 u v (Or.inr ⟨p1, by omega⟩) z
        · rw [q.1] at h1; exact absurd h1 (by decide)
      · rw [if_neg q]
        refine Or.inr ⟨rfl, e', t', hr', ?_⟩
        rcases hm with ⟨h1, he, ht, -⟩ | ⟨-, h3⟩
        · subst he ht
          refine hlt ?_
          by_cases z : L = 0
          · exact Or.inr (fun z2 => q ⟨h1, z, z2⟩)
          · exact Or.inl z
        · omega
    have bx := Ea_b ok hn hx
    have by_ := Ea_b ok hn hy
    have hrx := hr x hx
    have hry := hr y hy
    have hw := ok.1 x hx
    refine br_f (nI_ge hy (by omega)) (sp_tied8 hb (by omega) (by omega) (fun q => br_f (by decide) ⟨vp_in_nI (by omega) (by omega), sp_weight8 hb hn hx ⟨vp_in_nI (by omega) (by omega), ?_⟩⟩) (fun q => br_t rfl ?_))
    · rw [nI_cl (by omega), nI_cl (by omega), hrx.1, hry.1, nI_add]
      refine br_c (fun c => ?_) (fun c => ?_)
      · have c2 := (nI_leI (by omega) (by omega)).mp c
        unfold jp_X8_findTimes_109
        exact ft_110 hn ok hb hx hy hr (fun G g1 g2 => fin 0 G (fun z => absurd rfl z) (fun _ _ => c2) g1 g2)
      · have c2 : ¬ (e x + a.1 x ≤ e y) := fun z => c ((nI_leI (by omega) (by omega)).mpr z)
        exact ft_110 hn ok hb hx hy hr (fun G g1 g2 => fin 1 G (fun _ => ⟨q, by omega⟩) (fun z => absurd z (by decide)) g1 g2)
    · unfold jp_X8_findTimes_109
      exact ft_110 hn ok hb hx hy hr (fun G g1 g2 => fin 0 G (fun z => absurd rfl z) (fun _ z => by rw [q] at z; cases z) g1 g2)
theorem ft_57 {n : Nat} {a : An} {all : Nat → Int32} (hn : n ≤ 60) (ok : rl_ok n a) (hb : rl_blk n a all) {e0 t0 : Nat → Nat} {early tails : Nat → Int32} (hr : fRT n a e0 t0 early tails) {kx : (Nat → Int32) → (Nat → Int32) → Int32 → Prop} (hk : ∀ early' tails' m', fI n a e0 t0 (fun u _ => u < n) early' tails' m' → kx early' tails' m') : ∃ k, lp_X8_findTimes_57 (nI n) all k early tails 0 0 kx := by
  refine pk_loop (σ := (Nat → Int32) × (Nat → Int32) × Int32) (fun k x s => lp_X8_findTimes_57 (nI n) all k s.1 s.2.1 s.2.2 (nI x) kx) (fun x s => fI n a e0 t0 (fun u _ => u < x) s.1 s.2.1 s.2.2) n 0 (early, tails, 0) (Nat.zero_le n) (Or.inl ⟨rfl, hr, fun u v p => absurd p (by omega)⟩) ?_ ?_
  · rintro k ⟨e1, t1, m1⟩ hJ
    show lp_X8_findTimes_57 _ _ (k + 1) e1 t1 m1 (nI n) _
    rw [lp_X8_findTimes_57]
    exact br_t (nI_le (Nat.le_refl n) (by omega)) (hk e1 t1 m1 hJ)
  · rintro k x ⟨e1, t1, m1⟩ hx hJ ih
    show lp_X8_findTimes_57 _ _ (k + 1) e1 t1 m1 (nI x) _
    rw [lp_X8_findTimes_57]
    refine br_f (nI_ge hx (by omega)) (ft_67 hn ok hb hx hJ (fun e2 t2 m2 hJ2 z ez => ?_))
    rw [ez, nI_1]
    refine ih (e2, t2, m2) ?_
    rcases hJ2 with ⟨h1, h2, h3⟩ | h
    · exact Or.inl ⟨h1, h2, fun u v p q => h3 u v (by
        have p : u < x + 1 := p
        by_cases z : u = x
        · exact Or.inr z
        · exact Or.inl (by show u < x; omega)) q⟩
    · exact Or.inr h
theorem sp_findTimes8 {n : Nat} {a : An} {size total known : Int32} {all early tails : Nat → Int32} (hn : n ≤ 60) (ok : rl_ok n a) (hs : size = nI n) (hb : rl_blk n a all) (hc : known = 0 ∨ known = 1 ∧ ∃ (f g : Nat → Nat) (t : Nat), isEarly n a f ∧ isTail n a g ∧ isAll n a f t ∧ (∀ x, x < n → early x = nI (f x) ∧ tails x = nI (g x)) ∧ total = nI t) {post : Int32 → Int32 → (Nat → Int32) → (Nat → Int32) → Prop} (hp : ∀ e t, (∀ x, x < n → e x = nI (Ea n a x)) → (∀ x, x < n → t x = nI (Ta n a x)) → post (nI (Al n a)) 1 e t) : wp_X8_findTimes size total known all early tails post := by
  subst hs
  unfold wp_X8_findTimes
  rcases hc with rfl | ⟨rfl, f, g, t, h1, h2, h3, h4, h5⟩
  · refine br_t rfl ?_
    refine pk_loop (σ := (Nat → Int32) × (Nat → Int32)) (fun k i s => lp_X8_findTimes_15 (nI n) all k s.1 s.2 (nI i) (fun v_early_9 v_tails_10 => (∃ n49 : Nat, lp_X8_findTimes_49 (nI n) all n49 v_early_9 v_tails_10 1 (fun v_early_52 v_tails_53 => (∃ n255 : Nat, lp_X8_findTimes_255 (nI n) all v_early_52 n255 0 0 (fun v_total_63 => post v_total_63 1 v_early_52 v_tails_53)))))) (fun i s => ∀ x, x < i → s.1 x = nI 0 ∧ s.2 x = nI (a.1 x)) n 0 (early, tails) (Nat.zero_le n) (fun x hx => absurd hx (by omega)) ?_ ?_
    · rintro k ⟨e1, t1⟩ hI
      replace hI : ∀ x, x < n → e1 x = nI 0 ∧ t1 x = nI (a.1 x) := hI
      show lp_X8_findTimes_15 _ _ (k + 1) e1 t1 (nI n) _
      rw [lp_X8_findTimes_15]
      refine br_t (nI_le (Nat.le_refl n) (by omega)) ?_
      have hr0 : fRT n a (fun _ => 0) a.1 e1 t1 := fun x hx => ⟨(hI x hx).1, (hI x hx).2, Nat.zero_le _, by
        have := Ta_eq ok hx
        omega, Nat.le_refl _⟩
      refine lp3 (fun k e t m => lp_X8_findTimes_49 (nI n) all k e t m (fun v_early_52 v_tails_53 => (∃ n255 : Nat, lp_X8_findTimes_255 (nI n) all v_early_52 n255 0 0 (fun v_total_63 => post v_total_63 1 v_early_52 v_tails_53)))) (fun ea ta m => ∃ e t, fRT n a e t ea ta ∧ ((m = 0 ∧ ∀ x y, x < n → a.2.1 x y = true → e x + a.1 x ≤ e y ∧ t y + a.1 x ≤ t x) ∨ m = 1)) (fun ea ta m => if m = 0 then 0 else fmu n a (fun x => (ea x).toNatClampNeg) (fun x => (ta x).toNatClampNeg) + 1) ?_ e1 t1 1 ⟨_, _, hr0, Or.inr rfl⟩
      intro k ea ta m hJ ih
      obtain ⟨e, t, hr, hm⟩ := hJ
      show lp_X8_findTimes_49 _ _ (k + 1) ea ta m _
      rw [lp_X8_findTimes_49]
      have emu : ∀ (e' t' : Nat → Nat) (ea' ta' : Nat → Int32), fRT n a e' t' ea' ta' → fmu n a (fun x => (ea' x).toNatClampNeg) (fun x => (ta' x).toNatClampNeg) = fmu n a e' t' := by
        intro e' t' ea' ta' hr'
        refine sumN_congr (fun x hx => ?_)
        have h := hr' x hx
        have b1 := Ea_b ok hn hx
        have b2 := Ta_b ok hn hx
        dsimp only
        rw [h.1, h.2.1, nI_cl (by omega), nI_cl (by omega)]
      refine br_c (fun c => ?_) (fun c => ?_)
      · rcases hm with ⟨-, hcl⟩ | h1
        · have eE : ∀ x, x < n → e x = Ea n a x := by
            have key : ∀ mm y, y < n → a.2.2 y < mm → Ea n a y ≤ e y := by
              intro mm
              induction mm with
              | zero => intro y hy q; omega
              | succ mm ihm =>
                intro y hy q
                rw [Ea_eq ok hy]
                refine mxE_le (fun z hz hc => ?_)
                have hz2 := ok.2.1 z y hc
                have := ihm z hz2.1 (by omega)
                have := (hcl z y hz2.1 hc).1
                omega
            intro x hx
            exact Nat.le_antisymm (hr x hx).2.2.1 (key (a.2.2 x + 1) x hx (by omega))
          have eT : ∀ x, x < n → t x = Ta n a x := by
            have key : ∀ mm x, x < n → n ≤ a.2.2 x + mm → Ta n a x ≤ t x := by
              intro mm
              induction mm with
              | zero => intro x hx q; have := ok.2.2.1 x hx; omega
              | succ mm ihm =>
                intro x hx q
                rw [Ta_eq ok hx]
                have hb2 := (hr x hx).2.2.2.2
                rcases mxE_at (c := fun z => a.2.1 x z) (v := fun z => Ta n a z) (k := n) with p | ⟨z, p1, p2, p3⟩
                · omega
                · have hz2 := ok.2.1 x z p2
                  have := ihm z hz2.2.1 (by omega)
                  have := (hcl x z hx p2).2
                  omega
            intro x hx
            exact Nat.le_antisymm (hr x hx).2.2.2.1 (key n x hx (by omega))
          have fe : ∀ x, x < n → ea x = nI (Ea n a x) := fun x hx => by rw [(hr x hx).1, eE x hx]
          have ft : ∀ x, x < n → ta x = nI (Ta n a x) := fun x hx => by rw [(hr x hx).2.1, eT x hx]
          refine pk_loop (σ := Int32) (fun k i s => lp_X8_findTimes_255 (nI n) all ea k s (nI i) (fun v => post v 1 ea ta)) (fun i s => ∃ q, s = nI q ∧ q ≤ 61000 ∧ (∀ x, x < i → Ea n a x + a.1 x ≤ q) ∧ (q = 0 ∨ ∃ x, x < n ∧ q = Ea n a x + a.1 x)) n 0 0 (Nat.zero_le n) ⟨0, rfl, by omega, fun x hx => absurd hx (by omega), Or.inl rfl⟩ ?_ ?_
          · intro k s hI2
            obtain ⟨q, h1, h2, h3, h4⟩ := hI2
            show lp_X8_findTimes_255 _ _ _ (k + 1) s (nI n) _
            rw [lp_X8_findTimes_255]
            refine br_t (nI_le (Nat.le_refl n) (by omega)) ?_
            rw [h1, all_uni ok (isEarly_Ea ok) ⟨h3, h4⟩]
            exact hp ea ta fe ft
          · intro k i s hi hI2 ih2
            obtain ⟨q, h1, h2, h3, h4⟩ := hI2
            show lp_X8_findTimes_255 _ _ _ (k + 1) s (nI i) _
            rw [lp_X8_findTimes_255]
            have hin : vp_in (nI i) 60 := vp_in_nI (by omega) (by omega)
            have b1 := Ea_b ok hn hi
            have b2 := ok.1 i hi
            refine br_f (nI_ge hi (by omega)) ⟨hin, sp_weight8 hb hn hi ?_⟩
            rw [nI_cl (by omega), fe i hi, nI_add, h1]
            refine br_c (fun c2 => ?_) (fun c2 => ⟨hin, sp_weight8 hb hn hi ?_⟩)
            · intro z ez
              rw [ez, nI_1]
              have c3 := (nI_leI (by omega) (by omega)).mp c2
              exact ih2 (nI q) ⟨q, rfl, h2, fun x hx => by
                by_cases p : x = i
                · subst p; exact c3
                · exact h3 x (by omega), h4⟩
            · intro s2 es2 z ez
              rw [ez, nI_1]
              have c3 : ¬ (Ea n a i + a.1 i ≤ q) := fun p => c2 ((nI_leI (by omega) (by omega)).mpr p)
              exact ih2 s2 ⟨Ea n a i + a.1 i, by rw [es2, nI_add], by omega, fun x hx => by
                by_cases p : x = i
                · subst p; exact Nat.le_refl _
                · have := h3 x (by omega); omega, Or.inr ⟨i, hi, rfl⟩⟩
        · rw [c] at h1; exact absurd h1 (by decide)
      · refine ft_57 hn ok hb hr (fun e2 t2 m2 hJ2 => ?_)
        rcases hJ2 with ⟨h1, h2, h3⟩ | ⟨h1, e', t', h2, h3⟩
        · subst h1
          refine ih e2 t2 0 ⟨e, t, h2, Or.inl ⟨rfl, h3⟩⟩ ?_
          rw [if_pos rfl, if_neg c]; omega
        · subst h1
          refine ih e2 t2 1 ⟨e', t', h2, Or.inr rfl⟩ ?_
          rw [if_neg (by decide), if_neg c, emu e' t' e2 t2 h2, emu e t ea ta hr]
          omega
    · rintro k i ⟨e1, t1⟩ hi hI ih
      replace hI : ∀ x, x < i → e1 x = nI 0 ∧ t1 x = nI (a.1 x) := hI
      show lp_X8_findTimes_15 _ _ (k + 1) e1 t1 (nI i) _
      rw [lp_X8_findTimes_15]
      have hin : vp_in (nI i) 60 := vp_in_nI (by omega) (by omega)
      have ei : (nI i).toNatClampNeg = i := nI_cl (by omega)
      refine br_f (nI_ge hi (by omega)) ⟨hin, fun e2 ee2 => sp_weight8 hb hn hi ⟨hin, fun t2 et2 z ez => ?_⟩⟩
      rw [ez, nI_1]
      rw [ei] at ee2 et2
      refine ih (e2, t2) (fun x hx => ?_)
      show e2 x = nI 0 ∧ t2 x = nI (a.1 x)
      rw [ee2, et2]
      by_cases q : x = i
      · subst q; rw [pk_us, pk_us]; exact ⟨rfl, rfl⟩
      · rw [pk_un q, pk_un q]; exact hI x (by omega)
  · refine br_f (by decide) ?_
    rw [h5, all_uni ok h1 h3]
    refine hp early tails (fun x hx => ?_) (fun x hx => ?_)
    · rw [(h4 x hx).1, early_uni ok h1 (a.2.2 x + 1) x hx (by omega)]
    · rw [(h4 x hx).2, tail_uni ok h2 n x hx (by omega)]
