/-! sets as longs, features as ints -/
def bs_m (s : Int64) : Nat → Bool := fun i => s.toBitVec.getLsbD i
theorem bs_bit (s : Int64) {i : Nat} (hi : i < 64) : ((s >>> ((nI i).toInt64 &&& 63)) &&& 1) = 1 ↔ bs_m s i = true := by
  rw [wb_c i hi, ← Int64.toBitVec_inj, Int64.toBitVec_and]
  have e : (s >>> lN i).toBitVec = s.toBitVec.sshiftRight i := by
    show s.toBitVec.sshiftRight ((lN i).toBitVec.smod 64).toNat = _
    rw [wb_tb, wb_sm i hi, BitVec.toNat_ofNat, Nat.mod_eq_of_lt (by omega)]
  rw [e]
  show s.toBitVec.sshiftRight i &&& 1#64 = 1#64 ↔ s.toBitVec.getLsbD i = true
  have e0 : (s.toBitVec.sshiftRight i).getLsbD 0 = s.toBitVec.getLsbD i := by
    rw [BitVec.getLsbD_sshiftRight]
    simp [hi]
  constructor
  · intro h
    have t := congrArg (fun z => z.getLsbD 0) h
    rw [BitVec.getLsbD_and, e0] at t
    simpa using t
  · intro h
    apply BitVec.eq_of_getLsbD_eq
    intro j hj
    rw [BitVec.getLsbD_and]
    cases j with
    | zero => rw [e0, h]; rfl
    | succ j =>
      have z : (1#64).getLsbD (j + 1) = false := by simp
      rw [z, Bool.and_false]
theorem bs_or (r : Int64) {k i : Nat} (hk : k < 64) (hi : i < 64) : bs_m (r ||| ((1 : Int64) <<< ((nI k).toInt64 &&& 63))) i = (bs_m r i || decide (k = i)) := by
  have e : (1 : Int64) <<< ((nI k).toInt64 &&& 63) = lN (1 * 2 ^ k) := wb_shl 1 hk
  show (r ||| _).toBitVec.getLsbD i = (r.toBitVec.getLsbD i || decide (k = i))
  rw [e, Nat.one_mul, Int64.toBitVec_or, wb_tb, BitVec.getLsbD_or, BitVec.getLsbD_ofNat, Nat.testBit_two_pow, decide_eq_true hi, Bool.true_and]
theorem bs_and (s r : Int64) {i : Nat} (hi : i < 64) : bs_m (s &&& (r ^^^ (-1))) i = (bs_m s i && !bs_m r i) := by
  show (s &&& (r ^^^ (-1))).toBitVec.getLsbD i = (s.toBitVec.getLsbD i && !r.toBitVec.getLsbD i)
  have ha : (-1 : Int64).toBitVec = BitVec.allOnes 64 := by decide
  rw [Int64.toBitVec_and, Int64.toBitVec_xor, ha, BitVec.getLsbD_and, BitVec.getLsbD_xor, BitVec.getLsbD_allOnes, decide_eq_true hi, Bool.xor_true]
theorem bs_all {n i : Nat} (hn : n ≤ 48) (hi : i < 64) : bs_m (((1 : Int64) <<< ((nI n).toInt64 &&& 63)) - 1) i = decide (i < n) := by
  have e : (1 : Int64) <<< ((nI n).toInt64 &&& 63) = lN (1 * 2 ^ n) := wb_shl 1 (by omega)
  have e2 : lN (2 ^ n) - 1 = lN (2 ^ n - 1) := lN_sub (b := 1) Nat.one_le_two_pow
  rw [e, Nat.one_mul, e2]
  show (lN (2 ^ n - 1)).toBitVec.getLsbD i = _
  rw [wb_tb, BitVec.getLsbD_ofNat, Nat.testBit_two_pow_sub_one, decide_eq_true hi, Bool.true_and]
theorem bs_zero (i : Nat) : bs_m 0 i = false := by
  show (0 : Int64).toBitVec.getLsbD i = false
  rw [show (0 : Int64).toBitVec = 0#64 from rfl]
  simp
theorem bs_fb {x k f : Nat} (hx : x < 64) (hf : k < 32) : ((nI x >>> (nI k &&& 31)) &&& 1) = nI (x / 2 ^ k % 2) := by
  have h : x / 2 ^ k ≤ x := Nat.div_le_self _ _
  rw [pk_shrN (by omega) _ k (s_l k hf), pk_andN (by omega) 1 (by decide)]
theorem bs_fb0 {x f : Nat} (hx : x < 64) (hf : f < 6) : ((nI x >>> (nI f &&& 31)) &&& 1) = 0 ↔ x.testBit f = false := by
  rw [bs_fb (f := f) hx (by omega), show (0 : Int32) = nI 0 from rfl, nI_eq (by omega) (by omega), Nat.testBit_eq_decide_div_mod_eq, decide_eq_false_iff_not]
  omega
theorem bs_ia {c f : Nat} (hc : c < 4096) (hf : f < 6) : ((nI c >>> ((6 + nI f) &&& 31)) &&& 1) = 1 ↔ c.testBit (6 + f) = true := by
  have h : c / 2 ^ (6 + f) ≤ c := Nat.div_le_self _ _
  rw [show (6 : Int32) + nI f = nI (6 + f) from nI_add 6 f, pk_shrN (by omega) _ (6 + f) (s_l (6 + f) (by omega)), pk_andN (by omega) 1 (by decide), show (1 : Int32) = nI 1 from rfl, nI_eq (by omega) (by omega), Nat.testBit_eq_decide_div_mod_eq, decide_eq_true_iff]
theorem bs_nor (a b : Nat) : nI a ||| nI b = nI (a ||| b) := by
  apply Int32.toBitVec_inj.1
  show BitVec.ofNat 32 a ||| BitVec.ofNat 32 b = BitVec.ofNat 32 (a ||| b)
  apply BitVec.eq_of_getLsbD_eq
  intro i hi
  simp [hi]
theorem bs_p1 : ∀ f, f < 6 → (1 : Int32) <<< ((6 + nI f) &&& 31) = nI (2 ^ (6 + f)) := by decide +kernel
theorem bs_p2 : ∀ f, f < 6 → (1 : Int32) <<< (nI f &&& 31) = nI (2 ^ f) := by decide +kernel
theorem bs_no (c : Nat) {f : Nat} (hf : f < 6) : nI c ||| ((1 : Int32) <<< ((6 + nI f) &&& 31)) = nI (c ||| 2 ^ (6 + f)) := by
  rw [bs_p1 f hf, bs_nor]
theorem bs_ye (c : Nat) {f : Nat} (hf : f < 6) : nI (c ||| 2 ^ (6 + f)) ||| ((1 : Int32) <<< (nI f &&& 31)) = nI (c ||| 2 ^ (6 + f) ||| 2 ^ f) := by
  rw [bs_p2 f hf, bs_nor]
theorem bs_andlt {x a : Nat} (ha : a < 64) : x &&& a < 64 := Nat.lt_of_le_of_lt Nat.and_le_right ha
theorem bs_cell {x a : Nat} (ha : a < 64) : (nI a <<< ((6 : Int32) &&& 31)) ||| (nI x &&& nI a) = nI (a * 64 + (x &&& a)) := by
  rw [pk_shlN ((6 : Int32) &&& 31) 6 (by decide) (by omega), nx_and, bs_nor]
  have h := Nat.two_pow_add_eq_or_of_lt (i := 6) (b := x &&& a) (bs_andlt ha) a
  rw [show a * 2 ^ 6 = 2 ^ 6 * a from Nat.mul_comm _ _, ← h]
theorem bs_nar {y : Int32} (h : y = 0 ∨ y = 1) : vp_nar .boolean y = y := by
  rcases h with rfl | rfl <;> rfl
