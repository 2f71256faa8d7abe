/-! SETS OF TASKS as bits of a long -/
def bs (w : Int64) (j : Nat) : Bool := w.toBitVec.getLsbD j
theorem bs_ush {w : Int64} {s : UInt64} {j : Nat} (hj : j < 64) (hs : s.toNat = j) : ((w.toUInt64 >>> s).toInt64 &&& 1) = 0 ↔ w.toBitVec.getLsbD j = false := by
  have e : (w.toUInt64 >>> s).toInt64.toBitVec = w.toBitVec >>> j := by
    apply BitVec.eq_of_toNat_eq
    show (w.toUInt64 >>> s).toNat = _
    rw [UInt64.toNat_shiftRight, hs, Nat.mod_eq_of_lt hj, BitVec.toNat_ushiftRight]
    rfl
  rw [← Int64.toBitVec_inj, Int64.toBitVec_and, e]
  show w.toBitVec >>> j &&& 1#64 = 0#64 ↔ _
  constructor
  · intro h
    have t := congrArg (fun x => x.getLsbD 0) h
    simpa using t
  · intro h
    apply BitVec.eq_of_getLsbD_eq
    intro i hi
    simp only [BitVec.getLsbD_and, BitVec.getLsbD_ushiftRight, BitVec.getLsbD_zero]
    by_cases h0 : i = 0
    · subst h0; simp [h]
    · have : (1#64).getLsbD i = false := by
        rw [BitVec.getLsbD_one]; simp [h0]
      rw [this, Bool.and_false]
theorem bs_sh : ∀ k, k < 64 → ((nI k).toInt64.toUInt64 &&& Int64.toUInt64 63).toNat = k := by decide +kernel
theorem bs_bit : ∀ k, k < 64 → (gb_shl 1 (nI k)).toBitVec = BitVec.twoPow 64 k := by decide +kernel
theorem bs_sm : ∀ k, k < 64 → (((nI k).toInt64 &&& 63).toBitVec.smod 64).toNat = k := by decide +kernel
theorem bs_ext {a b : Int64} (h : ∀ j, j < 64 → bs a j = bs b j) : a = b := by
  rw [← Int64.toBitVec_inj]
  exact BitVec.eq_of_getLsbD_eq (fun i hi => h i hi)
theorem bs_or (a b : Int64) (j : Nat) : bs (a ||| b) j = (bs a j || bs b j) := by simp [bs, Int64.toBitVec_or]
theorem bs_and (a b : Int64) (j : Nat) : bs (a &&& b) j = (bs a j && bs b j) := by simp [bs, Int64.toBitVec_and]
theorem bs_not (a : Int64) {j : Nat} (hj : j < 64) : bs (a ^^^ (-1)) j = !bs a j := by
  have e : ((-1 : Int64)).toBitVec = BitVec.allOnes 64 := by decide +kernel
  simp [bs, Int64.toBitVec_xor, e, hj]
theorem bs_zero (j : Nat) : bs 0 j = false := by simp [bs]
theorem bs_one {k : Nat} (hk : k < 64) (j : Nat) : bs (gb_shl 1 (nI k)) j = decide (j = k) := by
  unfold bs
  rw [bs_bit k hk, BitVec.getLsbD_twoPow]
  by_cases h : j = k
  · subst h; simp [hk]
  · simp [h, Ne.symm h]
theorem bs_has {w : Int64} {k : Nat} (hk : k < 64) : (lg_cmp ((gb_ushr w (nI k)) &&& 1) 0) = 0 ↔ bs w k = false := by
  rw [lg_cmp_eq]
  exact bs_ush hk (bs_sh k hk)
theorem bs_eq0 {a : Int64} : a = 0 ↔ ∀ j, j < 64 → bs a j = false :=
  ⟨fun h j _ => by rw [h]; exact bs_zero j, fun h => bs_ext (fun j hj => by rw [h j hj, bs_zero])⟩
theorem bs_meet {a b : Int64} : (lg_cmp (a &&& b) 0) = 0 ↔ ∀ j, j < 64 → bs a j = true → bs b j = false := by
  rw [lg_cmp_eq, bs_eq0]
  constructor
  · intro h j hj ha
    have := h j hj
    rw [bs_and, ha, Bool.true_and] at this
    exact this
  · intro h j hj
    rw [bs_and]
    cases ha : bs a j with
    | false => rfl
    | true => rw [h j hj ha]; rfl
theorem bs_shr {w : Int64} {k : Nat} (hk : k < 64) : (lg_cmp ((gb_shr w (nI k)) &&& 1) 1) = 0 ↔ bs w k = true := by
  rw [lg_cmp_eq]
  have e : (gb_shr w (nI k)).toBitVec = w.toBitVec.sshiftRight k := by
    unfold gb_shr
    rw [Int64.toBitVec_shiftRight]
    show w.toBitVec.sshiftRight' _ = _
    rw [BitVec.sshiftRight', bs_sm k hk]
  have z : (w.toBitVec.sshiftRight k).getLsbD 0 = w.toBitVec.getLsbD k := by
    rw [BitVec.getLsbD_sshiftRight]
    simp [hk]
  rw [← Int64.toBitVec_inj, Int64.toBitVec_and, e]
  show w.toBitVec.sshiftRight k &&& 1#64 = 1#64 ↔ _
  constructor
  · intro h
    have t := congrArg (fun x => x.getLsbD 0) h
    simp only [BitVec.getLsbD_and, z] at t
    simpa [bs] using t
  · intro h
    apply BitVec.eq_of_getLsbD_eq
    intro i hi
    simp only [BitVec.getLsbD_and]
    by_cases h0 : i = 0
    · subst h0; rw [z]; unfold bs at h; rw [h]; rfl
    · have : (1#64).getLsbD i = false := by
        rw [BitVec.getLsbD_one]; simp [h0]
      rw [this, Bool.and_false]
theorem sp_has {w : Int64} {k : Nat} (hk : k < 64) {post : Int32 → Prop} (h : post (if bs w k = true then 1 else 0)) : wp_X7_has w (nI k) post := by
  unfold wp_X7_has
  cases hb : bs w k with
  | false =>
    rw [hb] at h
    exact br_t ((bs_has hk).mpr hb) h
  | true =>
    rw [hb] at h
    exact br_f (fun q => by rw [(bs_has hk).mp q] at hb; cases hb) h
theorem sp_bit {k : Nat} {post : Int64 → Prop} (h : post (gb_shl 1 (nI k))) : wp_X7_bit (nI k) post := h
