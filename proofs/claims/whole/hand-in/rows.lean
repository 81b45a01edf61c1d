section
/-! counting, leaves, costs: plain naturals -/
def bq_cnt (p : Nat → Bool) : Nat → Nat
  | 0 => 0
  | n + 1 => bq_cnt p n + (if p n = true then 1 else 0)
theorem bq_cnt_le (p : Nat → Bool) : ∀ n, bq_cnt p n ≤ n := by
  intro n
  induction n with
  | zero => exact Nat.le_refl 0
  | succ n ih =>
    show bq_cnt p n + _ ≤ _
    split <;> omega
theorem bq_cnt_ext {p q : Nat → Bool} : ∀ n, (∀ i, i < n → p i = q i) → bq_cnt p n = bq_cnt q n := by
  intro n
  induction n with
  | zero => intro _; rfl
  | succ n ih =>
    intro h
    show bq_cnt p n + _ = bq_cnt q n + _
    rw [ih (fun i hi => h i (by omega)), h n (by omega)]
theorem bq_cnt_pos (p : Nat → Bool) : ∀ n, 0 < bq_cnt p n ↔ ∃ i, i < n ∧ p i = true := by
  intro n
  induction n with
  | zero => exact ⟨fun h => absurd h (Nat.lt_irrefl 0), fun ⟨i, hi, _⟩ => absurd hi (Nat.not_lt_zero i)⟩
  | succ n ih =>
    show 0 < bq_cnt p n + _ ↔ _
    constructor
    · intro h
      by_cases hp : p n = true
      · exact ⟨n, by omega, hp⟩
      · rw [if_neg hp] at h
        obtain ⟨i, hi, e⟩ := ih.1 (by omega)
        exact ⟨i, by omega, e⟩
    · intro ⟨i, hi, e⟩
      by_cases hin : i = n
      · subst hin; rw [if_pos e]; omega
      · have := ih.2 ⟨i, by omega, e⟩
        omega
theorem bq_cnt_split (p g : Nat → Bool) : ∀ n, bq_cnt (fun i => p i && g i) n + bq_cnt (fun i => p i && !g i) n = bq_cnt p n := by
  intro n
  induction n with
  | zero => rfl
  | succ n ih =>
    show (bq_cnt (fun i => p i && g i) n + (if (p n && g n) = true then 1 else 0)) + (bq_cnt (fun i => p i && !g i) n + (if (p n && !g n) = true then 1 else 0)) = bq_cnt p n + (if p n = true then 1 else 0)
    rw [← ih]
    cases p n <;> cases g n <;> simp <;> omega
theorem bq_cnt_shift (p : Nat → Bool) (k : Nat) : ∀ m, k ≤ m → bq_cnt (fun i => if k ≤ i then p (i + 1) else p i) m + (if p k = true then 1 else 0) = bq_cnt p (m + 1) := by
  intro m
  induction m with
  | zero =>
    intro h
    have e : k = 0 := by omega
    subst e
    rfl
  | succ m ih =>
    intro h
    by_cases e : k = m + 1
    · subst e
      show bq_cnt _ (m + 1) + _ = bq_cnt p (m + 1) + (if p (m + 1) = true then 1 else 0)
      rw [bq_cnt_ext (p := fun i => if m + 1 ≤ i then p (i + 1) else p i) (q := p) (m + 1) (fun i hi => if_neg (by omega))]
    · have := ih (by omega)
      show bq_cnt _ m + (if (if k ≤ m then p (m + 1) else p m) = true then 1 else 0) + _ = bq_cnt p (m + 1) + (if p (m + 1) = true then 1 else 0)
      rw [if_pos (show k ≤ m by omega)]
      omega
def bq_leaf (w : Nat) (g : Nat → Bool) (n : Nat) (p : Nat → Bool) : Nat :=
  if bq_cnt (fun i => p i && !g i) n ≤ bq_cnt (fun i => p i && g i) n then w * bq_cnt (fun i => p i && !g i) n else w * bq_cnt (fun i => p i && g i) n
theorem bq_leaf_ext {w n : Nat} {g p q : Nat → Bool} (h : ∀ i, i < n → p i = q i) : bq_leaf w g n p = bq_leaf w g n q := by
  have e1 := bq_cnt_ext (p := fun i => p i && g i) (q := fun i => q i && g i) n (fun i hi => by show (p i && g i) = (q i && g i); rw [h i hi])
  have e2 := bq_cnt_ext (p := fun i => p i && !g i) (q := fun i => q i && !g i) n (fun i hi => by show (p i && !g i) = (q i && !g i); rw [h i hi])
  unfold bq_leaf
  rw [e1, e2]
theorem bq_leaf_le (w : Nat) (g : Nat → Bool) (n : Nat) (p : Nat → Bool) : bq_leaf w g n p ≤ w * n := by
  unfold bq_leaf
  split
  · exact Nat.mul_le_mul_left w (bq_cnt_le _ n)
  · exact Nat.mul_le_mul_left w (bq_cnt_le _ n)
def bq_min (b : Nat) (o : Nat → Nat) : Nat → Nat
  | 0 => b
  | k + 1 => if bq_min b o k ≤ o k then bq_min b o k else o k
theorem bq_min_iff (b : Nat) (o : Nat → Nat) (z : Nat) : ∀ k, z ≤ bq_min b o k ↔ z ≤ b ∧ ∀ f, f < k → z ≤ o f := by
  intro k
  induction k with
  | zero => exact ⟨fun h => ⟨h, fun f hf => absurd hf (Nat.not_lt_zero f)⟩, fun h => h.1⟩
  | succ k ih =>
    show z ≤ (if bq_min b o k ≤ o k then bq_min b o k else o k) ↔ _
    constructor
    · intro h
      have h1 : z ≤ bq_min b o k := by split at h <;> omega
      have h2 : z ≤ o k := by split at h <;> omega
      refine ⟨(ih.1 h1).1, fun f hf => ?_⟩
      by_cases e : f = k
      · subst e; exact h2
      · exact (ih.1 h1).2 f (by omega)
    · intro ⟨h1, h2⟩
      have h3 := ih.2 ⟨h1, fun f hf => h2 f (by omega)⟩
      have h4 := h2 k (by omega)
      split <;> omega
def bq_mu (b : Nat) (o : Nat → Nat) (a : Nat → Bool) : Nat → Nat
  | 0 => b
  | k + 1 => if a k = true then bq_mu b o a k else if bq_mu b o a k ≤ o k then bq_mu b o a k else o k
theorem bq_mu_iff (b : Nat) (o : Nat → Nat) (a : Nat → Bool) (z : Nat) : ∀ k, z ≤ bq_mu b o a k ↔ z ≤ b ∧ ∀ f, f < k → a f = false → z ≤ o f := by
  intro k
  induction k with
  | zero => exact ⟨fun h => ⟨h, fun f hf => absurd hf (Nat.not_lt_zero f)⟩, fun h => h.1⟩
  | succ k ih =>
    by_cases ha : a k = true
    · show z ≤ (if a k = true then bq_mu b o a k else _) ↔ _
      rw [if_pos ha, ih]
      refine ⟨fun h => ⟨h.1, fun f hf hz => ?_⟩, fun h => ⟨h.1, fun f hf => h.2 f (by omega)⟩⟩
      by_cases e : f = k
      · subst e; rw [ha] at hz; exact absurd hz (by decide)
      · exact h.2 f (by omega) hz
    · show z ≤ (if a k = true then bq_mu b o a k else if bq_mu b o a k ≤ o k then bq_mu b o a k else o k) ↔ _
      rw [if_neg ha]
      have ha' : a k = false := by cases h : a k <;> first | rfl | exact absurd h ha
      constructor
      · intro h
        have h1 : z ≤ bq_mu b o a k := by split at h <;> omega
        have h2 : z ≤ o k := by split at h <;> omega
        refine ⟨(ih.1 h1).1, fun f hf hz => ?_⟩
        by_cases e : f = k
        · subst e; exact h2
        · exact (ih.1 h1).2 f (by omega) hz
      · intro ⟨h1, h2⟩
        have h3 := ih.2 ⟨h1, fun f hf => h2 f (by omega)⟩
        have h4 := h2 k (by omega) ha'
        split <;> omega
def bq_C (w q : Nat) (g : Nat → Bool) (x : Nat → Nat) (n : Nat) : Nat → (Nat → Bool) → Nat
  | 0 => fun p => bq_leaf w g n p
  | d + 1 => fun p => bq_min (bq_leaf w g n p) (fun f => q + bq_C w q g x n d (fun i => p i && !(x i).testBit f) + bq_C w q g x n d (fun i => p i && (x i).testBit f)) 6
def bq_opt (w q : Nat) (g : Nat → Bool) (x : Nat → Nat) (n d : Nat) (p : Nat → Bool) (f : Nat) : Nat :=
  q + bq_C w q g x n d (fun i => p i && !(x i).testBit f) + bq_C w q g x n d (fun i => p i && (x i).testBit f)
theorem bq_C_s (w q : Nat) (g : Nat → Bool) (x : Nat → Nat) (n d : Nat) (p : Nat → Bool) : bq_C w q g x n (d + 1) p = bq_min (bq_leaf w g n p) (bq_opt w q g x n d p) 6 := rfl
theorem bq_C_ext {w q : Nat} {g : Nat → Bool} {x : Nat → Nat} {n : Nat} : ∀ (d : Nat) (p p' : Nat → Bool), (∀ i, i < n → p i = p' i) → bq_C w q g x n d p = bq_C w q g x n d p' := by
  intro d
  induction d with
  | zero => intro p p' h; exact bq_leaf_ext h
  | succ d ih =>
    intro p p' h
    have e : bq_opt w q g x n d p = bq_opt w q g x n d p' := by
      funext f
      unfold bq_opt
      rw [ih (fun i => p i && !(x i).testBit f) (fun i => p' i && !(x i).testBit f) (fun i hi => by show (p i && _) = (p' i && _); rw [h i hi]),
        ih (fun i => p i && (x i).testBit f) (fun i => p' i && (x i).testBit f) (fun i hi => by show (p i && _) = (p' i && _); rw [h i hi])]
    rw [bq_C_s, bq_C_s, bq_leaf_ext h, e]
theorem bq_C_leaf (w q : Nat) (g : Nat → Bool) (x : Nat → Nat) (n d : Nat) (p : Nat → Bool) : bq_C w q g x n d p ≤ bq_leaf w g n p := by
  cases d with
  | zero => exact Nat.le_refl _
  | succ d => exact ((bq_min_iff _ _ _ 6).1 (Nat.le_refl (bq_C w q g x n (d + 1) p))).1
theorem bq_C_le (w q : Nat) (g : Nat → Bool) (x : Nat → Nat) (n d : Nat) (p : Nat → Bool) : bq_C w q g x n d p ≤ w * n :=
  Nat.le_trans (bq_C_leaf w q g x n d p) (bq_leaf_le w g n p)
theorem bq_mono (w q : Nat) (g : Nat → Bool) (x : Nat → Nat) (n : Nat) : ∀ (d : Nat) (p : Nat → Bool), bq_C w q g x n (d + 1) p ≤ bq_C w q g x n d p := by
  intro d
  induction d with
  | zero => intro p; exact bq_C_leaf w q g x n 1 p
  | succ d ih =>
    intro p
    rw [bq_C_s w q g x n d p, bq_min_iff]
    refine ⟨bq_C_leaf w q g x n _ p, fun f hf => ?_⟩
    have h := ((bq_min_iff _ _ _ 6).1 (Nat.le_refl (bq_C w q g x n (d + 1 + 1) p))).2 f hf
    have h1 := ih (fun i => p i && !(x i).testBit f)
    have h2 := ih (fun i => p i && (x i).testBit f)
    show _ ≤ q + bq_C w q g x n d (fun i => p i && !(x i).testBit f) + bq_C w q g x n d (fun i => p i && (x i).testBit f)
    omega
theorem bq_step {w q : Nat} {g : Nat → Bool} {x : Nat → Nat} {n d : Nat} {p : Nat → Bool} (a : Nat → Bool) (o : Nat → Nat)
    (ho : ∀ f, f < 6 → a f = false → o f = bq_opt w q g x n d p f) (ha : ∀ f, f < 6 → a f = true → bq_C w q g x n d p ≤ bq_opt w q g x n d p f) :
    bq_mu (bq_C w q g x n d p) o a 6 = bq_C w q g x n (d + 1) p := by
  apply Nat.le_antisymm
  · rw [bq_C_s, bq_min_iff]
    have h := (bq_mu_iff (bq_C w q g x n d p) o a _ 6).1 (Nat.le_refl _)
    refine ⟨Nat.le_trans h.1 (bq_C_leaf w q g x n d p), fun f hf => ?_⟩
    cases hz : a f with
    | false => rw [← ho f hf hz]; exact h.2 f hf hz
    | true => exact Nat.le_trans h.1 (ha f hf hz)
  · rw [bq_mu_iff]
    refine ⟨bq_mono w q g x n d p, fun f hf hz => ?_⟩
    rw [ho f hf hz]
    exact ((bq_min_iff _ _ _ 6).1 (Nat.le_refl (bq_C w q g x n (d + 1) p))).2 f hf
theorem bq_lex (g : Nat → Bool) (x : Nat → Nat) (n : Nat) : ∀ (d : Nat) (p : Nat → Bool), d ≤ 3 → ∃ m r : Nat, bq_C 100 1 g x n d p = 100 * m + r ∧ bq_C 8 1 g x n d p = 8 * m + r ∧ r + 1 ≤ 2 ^ d := by
  intro d
  have hl : ∀ p : Nat → Bool, ∃ m : Nat, bq_leaf 100 g n p = 100 * m ∧ bq_leaf 8 g n p = 8 * m := by
    intro p
    unfold bq_leaf
    by_cases h : bq_cnt (fun i => p i && !g i) n ≤ bq_cnt (fun i => p i && g i) n
    · rw [if_pos h, if_pos h]; exact ⟨_, rfl, rfl⟩
    · rw [if_neg h, if_neg h]; exact ⟨_, rfl, rfl⟩
  induction d with
  | zero =>
    intro p _
    obtain ⟨m, h1, h2⟩ := hl p
    exact ⟨m, 0, h1, h2, Nat.le_refl 1⟩
  | succ d ih =>
    intro p hd
    have hp : 2 ^ (d + 1) ≤ 8 := Nat.pow_le_pow_right (n := 2) (by decide) hd
    have hs : 2 ^ (d + 1) = 2 ^ d * 2 := Nat.pow_succ 2 d
    have h1d : 1 ≤ 2 ^ d := Nat.one_le_two_pow
    rw [bq_C_s, bq_C_s]
    suffices H : ∀ k, ∃ m r : Nat, bq_min (bq_leaf 100 g n p) (bq_opt 100 1 g x n d p) k = 100 * m + r ∧ bq_min (bq_leaf 8 g n p) (bq_opt 8 1 g x n d p) k = 8 * m + r ∧ r + 1 ≤ 2 ^ (d + 1) from H 6
    intro k
    induction k with
    | zero =>
      obtain ⟨m, h1, h2⟩ := hl p
      exact ⟨m, 0, h1, h2, by omega⟩
    | succ k ihk =>
      obtain ⟨m, r, e1, e2, hr⟩ := ihk
      obtain ⟨m1, r1, a1, b1, c1⟩ := ih (fun i => p i && !(x i).testBit k) (by omega)
      obtain ⟨m2, r2, a2, b2, c2⟩ := ih (fun i => p i && (x i).testBit k) (by omega)
      have o1 : bq_opt 100 1 g x n d p k = 100 * (m1 + m2) + (1 + r1 + r2) := by
        unfold bq_opt; rw [a1, a2]; omega
      have o2 : bq_opt 8 1 g x n d p k = 8 * (m1 + m2) + (1 + r1 + r2) := by
        unfold bq_opt; rw [b1, b2]; omega
      show ∃ m r : Nat, (if bq_min (bq_leaf 100 g n p) (bq_opt 100 1 g x n d p) k ≤ bq_opt 100 1 g x n d p k then bq_min (bq_leaf 100 g n p) (bq_opt 100 1 g x n d p) k else bq_opt 100 1 g x n d p k) = 100 * m + r ∧ (if bq_min (bq_leaf 8 g n p) (bq_opt 8 1 g x n d p) k ≤ bq_opt 8 1 g x n d p k then bq_min (bq_leaf 8 g n p) (bq_opt 8 1 g x n d p) k else bq_opt 8 1 g x n d p k) = 8 * m + r ∧ r + 1 ≤ 2 ^ (d + 1)
      rw [e1, e2, o1, o2]
      generalize 2 ^ (d + 1) = D at *
      generalize 2 ^ d = E at *
      by_cases h : 100 * m + r ≤ 100 * (m1 + m2) + (1 + r1 + r2)
      · rw [if_pos h, if_pos (by omega)]
        exact ⟨m, r, rfl, rfl, hr⟩
      · rw [if_neg h, if_neg (by omega)]
        exact ⟨m1 + m2, 1 + r1 + r2, rfl, rfl, by omega⟩
end
section
/-! pasted from kit/rows -/
theorem pk_us {f : Nat → Int32} {k : Nat} {x : Int32} : upd f k x k = x := if_pos rfl
theorem pk_un {f : Nat → Int32} {k j : Nat} {x : Int32} (h : j ≠ k) : upd f k x j = f j := if_neg h
theorem pk_sub {a b : Nat} (h : b ≤ a) : nI a - nI b = nI (a - b) := by
  obtain ⟨c, rfl⟩ : ∃ c, a = c + b := ⟨a - b, by omega⟩
  rw [← nI_add, Int32.add_sub_cancel, Nat.add_sub_cancel]
theorem pk_m1 (n : Nat) : nI (n + 1) + (-1) = nI n := by
  rw [← nI_1, Int32.add_assoc, show (1 : Int32) + (-1) = 0 from rfl, Int32.add_zero]
theorem pk_mul (a b : Nat) : nI a * nI b = nI (a * b) := (Int32.ofNat_mul a b).symm
theorem pk_div {a d : Nat} (ha : a < 2 ^ 31) (h0 : 0 < d) (hd : d < 2 ^ 31) : nI a / nI d = nI (a / d) := by
  apply Int32.toInt_inj.mp
  rw [lg_idiv_nonneg (by rw [nI_toInt ha]; omega) (by rw [nI_toInt hd]; omega), nI_toInt ha, nI_toInt hd, nI_toInt (Nat.lt_of_le_of_lt (Nat.div_le_self a d) ha)]
  first | rfl | exact (Int.natCast_ediv _ _).symm
theorem pk_rem {a d : Nat} (ha : a < 2 ^ 31) (h0 : 0 < d) (hd : d < 2 ^ 31) : nI a - nI a / nI d * nI d = nI (a % d) := by
  rw [pk_div ha h0 hd, pk_mul, pk_sub (Nat.div_mul_le_self a d)]
  exact congrArg nI (by have := Nat.div_add_mod' a d; omega)
theorem pk_ix (x : Int32) {n : Nat} (hn : n < 2 ^ 31) : x < 0 ∨ nI n ≤ x ∨ ∃ j : Nat, j < n ∧ x = nI j := by
  by_cases h : x < 0
  · exact Or.inl h
  · obtain ⟨j, hj, rfl⟩ := nI_of h
    by_cases h2 : j < n
    · exact Or.inr (Or.inr ⟨j, h2, rfl⟩)
    · exact Or.inr (Or.inl (nI_le (by omega) hj))
theorem pk_le {x y : Int32} {A B : Prop} (a b : Nat) (f : a ≤ b → A) (g : b < a → B) (hx : x = nI a := by rfl) (hy : y = nI b := by rfl) (ha : a < 2 ^ 31 := by omega) (hb : b < 2 ^ 31 := by omega) : (x ≤ y → A) ∧ (¬ x ≤ y → B) := by
  subst hx hy
  rw [nI_leI ha hb]
  exact ⟨f, fun z => g (by omega)⟩
theorem pk_lt {x y : Int32} {A B : Prop} (a b : Nat) (f : a < b → A) (g : b ≤ a → B) (hx : x = nI a := by rfl) (hy : y = nI b := by rfl) (ha : a < 2 ^ 31 := by omega) (hb : b < 2 ^ 31 := by omega) : (x < y → A) ∧ (¬ x < y → B) := by
  subst hx hy
  rw [nI_ltI ha hb]
  exact ⟨f, fun z => g (by omega)⟩
theorem pk_eq {x y : Int32} {A B : Prop} (a b : Nat) (f : a = b → A) (g : a ≠ b → B) (hx : x = nI a := by rfl) (hy : y = nI b := by rfl) (ha : a < 2 ^ 31 := by omega) (hb : b < 2 ^ 31 := by omega) : (x = y → A) ∧ (¬ x = y → B) := by
  subst hx hy
  rw [nI_eq ha hb]
  exact ⟨f, g⟩
theorem pk_in {x : Int32} (n N : Nat) (h : n < N) (hx : x = nI n := by rfl) (hN : N < 2 ^ 31 := by omega) : vp_in x N := by
  subst hx
  exact vp_in_nI h hN
theorem pk_cl {x : Int32} (n : Nat) (hx : x = nI n := by rfl) (h : n < 2 ^ 31 := by omega) : x.toNatClampNeg = n := by
  subst hx
  exact nI_clamp h
theorem pk_tn {n : Nat} (h : n < 2 ^ 32) : (nI n).toBitVec.toNat = n := Nat.mod_eq_of_lt h
theorem pk_and (x : Int32) {m : Int32} (k : Nat) (hm : m.toBitVec.toNat = 2 ^ k - 1) : x &&& m = nI (x.toBitVec.toNat % 2 ^ k) := by
  apply Int32.toBitVec_inj.mp
  apply BitVec.eq_of_toNat_eq
  rw [Int32.toBitVec_and, BitVec.toNat_and, hm, Nat.and_two_pow_sub_one_eq_mod]
  show _ = (BitVec.ofNat 32 _).toNat
  rw [BitVec.toNat_ofNat]
  exact (Nat.mod_eq_of_lt (Nat.lt_of_le_of_lt (Nat.mod_le _ _) x.toBitVec.isLt)).symm
theorem pk_andN {n : Nat} (h : n < 2 ^ 32) {m : Int32} (k : Nat) (hm : m.toBitVec.toNat = 2 ^ k - 1) : nI n &&& m = nI (n % 2 ^ k) := by
  rw [pk_and _ k hm, pk_tn h]
theorem pk_shl (a s : Int32) (k : Nat) (hs : (s.toBitVec.smod 32).toNat = k) : (a <<< s).toBitVec.toNat = a.toBitVec.toNat * 2 ^ k % 2 ^ 32 := by
  show (a.toBitVec <<< (s.toBitVec.smod 32).toNat).toNat = _
  rw [hs, BitVec.toNat_shiftLeft, Nat.shiftLeft_eq]
theorem pk_shlN {n : Nat} (s : Int32) (k : Nat) (hs : (s.toBitVec.smod 32).toNat = k) (h : n * 2 ^ k < 2 ^ 32) : nI n <<< s = nI (n * 2 ^ k) := by
  apply Int32.toBitVec_inj.mp
  apply BitVec.eq_of_toNat_eq
  have hn : n < 2 ^ 32 := Nat.lt_of_le_of_lt (Nat.le_mul_of_pos_right n (Nat.two_pow_pos k)) h
  rw [pk_shl _ _ k hs, pk_tn hn, pk_tn h, Nat.mod_eq_of_lt h]
theorem pk_shr (a s : Int32) (k : Nat) (hs : (s.toBitVec.smod 32).toNat = k) : (a >>> s).toInt = a.toInt >>> k := by
  show (a.toBitVec.sshiftRight (s.toBitVec.smod 32).toNat).toInt = _
  rw [hs, BitVec.toInt_sshiftRight]
  rfl
theorem pk_shrN {n : Nat} (h : n < 2 ^ 31) (s : Int32) (k : Nat) (hs : (s.toBitVec.smod 32).toNat = k) : nI n >>> s = nI (n / 2 ^ k) := by
  apply Int32.toInt_inj.mp
  have h2 : n / 2 ^ k ≤ n := Nat.div_le_self _ _
  rw [pk_shr _ _ k hs, nI_toInt h, nI_toInt (by omega), Int.shiftRight_eq_div_pow]
  rfl
theorem s_l : ∀ n, n < 32 → ((nI n &&& 31).toBitVec.smod 32).toNat = n := by decide +kernel
theorem nx_and (a b : Nat) : nI a &&& nI b = nI (a &&& b) := by
  apply Int32.toBitVec_inj.1
  show BitVec.ofNat 32 a &&& BitVec.ofNat 32 b = BitVec.ofNat 32 (a &&& b)
  apply BitVec.eq_of_getLsbD_eq
  intro i hi
  simp [hi]
theorem wb_tb (n : Nat) : (lN n).toBitVec = BitVec.ofNat 64 n := rfl
theorem wb_inj {a b : Int64} (h : a.toBitVec = b.toBitVec) : a = b := Int64.toBitVec_inj.mp h
theorem wb_c : ∀ k, k < 64 → ((nI k).toInt64 &&& 63) = lN k := by decide +kernel
theorem wb_sm : ∀ k, k < 64 → (BitVec.ofNat 64 k).smod 64 = BitVec.ofNat 64 k := by decide +kernel
theorem wb_shl (n : Nat) {k : Nat} (hk : k < 64) : lN n <<< ((nI k).toInt64 &&& 63) = lN (n * 2 ^ k) := by
  rw [wb_c k hk]
  apply wb_inj
  rw [Int64.toBitVec_shiftLeft, wb_tb, wb_tb, wb_tb, wb_sm k hk]
  apply BitVec.eq_of_toNat_eq
  rw [BitVec.shiftLeft_eq', BitVec.toNat_shiftLeft, BitVec.toNat_ofNat, BitVec.toNat_ofNat, BitVec.toNat_ofNat, Nat.mod_eq_of_lt (show k < 2 ^ 64 by omega), Nat.shiftLeft_eq, Nat.mul_mod, Nat.mod_mod, ← Nat.mul_mod]
end
section
/-! cells: asked features in the upper six bits, their answers in the lower six -/
def bq_mem (x : Nat → Nat) (c : Nat) : Nat → Bool := fun i => decide ((x i &&& (c / 64)) = c % 64)
def bq_ok (c : Nat) : Prop := ∀ j, j < 6 → c.testBit j = true → c.testBit (6 + j) = true
theorem bq_mem_iff {x : Nat → Nat} {c i : Nat} (hx : x i < 64) : bq_mem x c i = true ↔ ∀ j, j < 6 → ((x i).testBit j && c.testBit (6 + j)) = c.testBit j := by
  show decide ((x i &&& (c / 64)) = c % 64) = true ↔ _
  rw [decide_eq_true_iff]
  have a : ∀ j, (x i &&& (c / 64)).testBit j = ((x i).testBit j && c.testBit (6 + j)) := by
    intro j
    rw [Nat.testBit_and, show c / 64 = c / 2 ^ 6 from rfl, Nat.testBit_div_two_pow, Nat.add_comm j 6]
  have b : ∀ j, (c % 64).testBit j = (decide (j < 6) && c.testBit j) := by
    intro j
    rw [show c % 64 = c % 2 ^ 6 from rfl, Nat.testBit_mod_two_pow]
  constructor
  · intro h j hj
    rw [← a j, h, b j, decide_eq_true hj, Bool.true_and]
  · intro h
    apply Nat.eq_of_testBit_eq
    intro j
    rw [a, b]
    by_cases hj : j < 6
    · rw [h j hj, decide_eq_true hj, Bool.true_and]
    · have hz : (x i).testBit j = false := Nat.testBit_lt_two_pow (Nat.lt_of_lt_of_le hx (Nat.pow_le_pow_right (n := 2) (by decide) (show 6 ≤ j by omega)))
      rw [hz, decide_eq_false hj, Bool.false_and, Bool.false_and]
theorem bq_or (c k j : Nat) : (c ||| 2 ^ k).testBit j = (c.testBit j || decide (k = j)) := by
  rw [Nat.testBit_or, Nat.testBit_two_pow]
theorem bq_low {c f : Nat} (hc : bq_ok c) (hf : f < 6) (ha : c.testBit (6 + f) = false) : c.testBit f = false := by
  cases h : c.testBit f with
  | false => rfl
  | true => exact absurd ((hc f hf h).symm.trans ha) (by decide)
theorem bq_no6 {c f j : Nat} (hj : j < 6) : (c ||| 2 ^ (6 + f)).testBit j = c.testBit j := by
  rw [bq_or, decide_eq_false (by omega), Bool.or_false]
theorem bq_noU {c f j : Nat} : (c ||| 2 ^ (6 + f)).testBit (6 + j) = (c.testBit (6 + j) || decide (f = j)) := by
  rw [bq_or]
  congr 1
  exact decide_eq_decide.mpr (by omega)
theorem bq_ye6 {c f j : Nat} (hj : j < 6) : (c ||| 2 ^ (6 + f) ||| 2 ^ f).testBit j = (c.testBit j || decide (f = j)) := by
  rw [bq_or, bq_no6 hj]
theorem bq_yeU {c f j : Nat} (hf : f < 6) : (c ||| 2 ^ (6 + f) ||| 2 ^ f).testBit (6 + j) = (c.testBit (6 + j) || decide (f = j)) := by
  rw [bq_or, bq_noU, decide_eq_false (show ¬ f = 6 + j by omega), Bool.or_false]
theorem bq_ok_no {c f : Nat} (hc : bq_ok c) (hf : f < 6) : bq_ok (c ||| 2 ^ (6 + f)) := by
  intro j hj h
  rw [bq_no6 hj] at h
  rw [bq_noU, hc j hj h, Bool.true_or]
theorem bq_ok_ye {c f : Nat} (hc : bq_ok c) (hf : f < 6) : bq_ok (c ||| 2 ^ (6 + f) ||| 2 ^ f) := by
  intro j hj h
  rw [bq_ye6 hj] at h
  rw [bq_yeU hf]
  by_cases e : f = j
  · rw [decide_eq_true e, Bool.or_true]
  · rw [decide_eq_false e, Bool.or_false] at h
    rw [hc j hj h, Bool.true_or]
theorem bq_mem_no {x : Nat → Nat} {c f i : Nat} (hx : x i < 64) (hc : bq_ok c) (hf : f < 6) (ha : c.testBit (6 + f) = false) : bq_mem x (c ||| 2 ^ (6 + f)) i = (bq_mem x c i && !(x i).testBit f) := by
  have hl := bq_low hc hf ha
  rw [Bool.eq_iff_iff, Bool.and_eq_true, bq_mem_iff hx, bq_mem_iff hx]
  constructor
  · intro H
    have hxf : (x i).testBit f = false := by
      have := H f hf
      rw [bq_noU, bq_no6 hf, decide_eq_true rfl, Bool.or_true, Bool.and_true, hl] at this
      exact this
    refine ⟨fun j hj => ?_, by rw [hxf]; rfl⟩
    by_cases e : f = j
    · subst e; rw [hxf, hl, Bool.false_and]
    · have := H j hj
      rw [bq_noU, bq_no6 hj, decide_eq_false e, Bool.or_false] at this
      exact this
  · intro ⟨H, hxf⟩ j hj
    rw [bq_noU, bq_no6 hj]
    by_cases e : f = j
    · subst e
      cases hz : (x i).testBit f with
      | false => rw [hl, Bool.false_and]
      | true => rw [hz] at hxf; exact absurd hxf (by decide)
    · rw [decide_eq_false e, Bool.or_false]
      exact H j hj
theorem bq_mem_ye {x : Nat → Nat} {c f i : Nat} (hx : x i < 64) (hc : bq_ok c) (hf : f < 6) (ha : c.testBit (6 + f) = false) : bq_mem x (c ||| 2 ^ (6 + f) ||| 2 ^ f) i = (bq_mem x c i && (x i).testBit f) := by
  have hl := bq_low hc hf ha
  rw [Bool.eq_iff_iff, Bool.and_eq_true, bq_mem_iff hx, bq_mem_iff hx]
  constructor
  · intro H
    have hxf : (x i).testBit f = true := by
      have := H f hf
      rw [bq_yeU hf, bq_ye6 hf, decide_eq_true rfl, Bool.or_true, Bool.and_true, Bool.or_true] at this
      exact this
    refine ⟨fun j hj => ?_, hxf⟩
    by_cases e : f = j
    · subst e; rw [ha, hl, Bool.and_false]
    · have := H j hj
      rw [bq_yeU hf, bq_ye6 hj, decide_eq_false e, Bool.or_false, Bool.or_false] at this
      exact this
  · intro ⟨H, hxf⟩ j hj
    rw [bq_yeU hf, bq_ye6 hj]
    by_cases e : f = j
    · subst e
      rw [hxf, decide_eq_true rfl, Bool.or_true, Bool.or_true]; rfl
    · rw [decide_eq_false e, Bool.or_false, Bool.or_false]
      exact H j hj
theorem bq_no_gt {c f : Nat} (ha : c.testBit (6 + f) = false) : c < c ||| 2 ^ (6 + f) := by
  apply Nat.lt_of_le_of_ne Nat.left_le_or
  intro e
  have h : c.testBit (6 + f) = (c ||| 2 ^ (6 + f)).testBit (6 + f) := congrArg (fun z => z.testBit (6 + f)) e
  rw [bq_noU, ha, decide_eq_true rfl] at h
  exact absurd h (by decide)
theorem bq_ye_gt {c f : Nat} (ha : c.testBit (6 + f) = false) : c < c ||| 2 ^ (6 + f) ||| 2 ^ f :=
  Nat.lt_of_lt_of_le (bq_no_gt ha) Nat.left_le_or
theorem bq_no_lt {c f : Nat} (hc : c < 4096) (hf : f < 6) : c ||| 2 ^ (6 + f) < 4096 :=
  Nat.or_lt_two_pow (n := 12) hc (Nat.pow_lt_pow_right (by decide) (by omega))
theorem bq_ye_lt {c f : Nat} (hc : c < 4096) (hf : f < 6) : c ||| 2 ^ (6 + f) ||| 2 ^ f < 4096 :=
  Nat.or_lt_two_pow (n := 12) (bq_no_lt hc hf) (Nat.pow_lt_pow_right (by decide) (by omega))
theorem bq_again {w q : Nat} {g : Nat → Bool} {x : Nat → Nat} {n d c f : Nat} (hx : ∀ i, x i < 64) (hf : f < 6) (ha : c.testBit (6 + f) = true) : bq_C w q g x n d (bq_mem x c) ≤ bq_opt w q g x n d (bq_mem x c) f := by
  have H : ∀ i, bq_mem x c i = true → (x i).testBit f = c.testBit f := by
    intro i h
    have := (bq_mem_iff (hx i)).1 h f hf
    rw [ha, Bool.and_true] at this
    exact this
  unfold bq_opt
  cases hc : c.testBit f with
  | true =>
    rw [bq_C_ext d (fun i => bq_mem x c i && (x i).testBit f) (bq_mem x c) (fun i _ => by
      show (bq_mem x c i && (x i).testBit f) = bq_mem x c i
      cases h : bq_mem x c i with
      | false => rfl
      | true => rw [H i h, hc]; rfl)]
    omega
  | false =>
    rw [bq_C_ext d (fun i => bq_mem x c i && !(x i).testBit f) (bq_mem x c) (fun i _ => by
      show (bq_mem x c i && !(x i).testBit f) = bq_mem x c i
      cases h : bq_mem x c i with
      | false => rfl
      | true => rw [H i h, hc]; rfl)]
    omega
theorem bq_askN {w q : Nat} {g : Nat → Bool} {x : Nat → Nat} {n d c f : Nat} (hx : ∀ i, x i < 64) (hc : bq_ok c) (hf : f < 6) (ha : c.testBit (6 + f) = false) : q + bq_C w q g x n d (bq_mem x (c ||| 2 ^ (6 + f))) + bq_C w q g x n d (bq_mem x (c ||| 2 ^ (6 + f) ||| 2 ^ f)) = bq_opt w q g x n d (bq_mem x c) f := by
  unfold bq_opt
  rw [bq_C_ext d (bq_mem x (c ||| 2 ^ (6 + f))) (fun i => bq_mem x c i && !(x i).testBit f) (fun i _ => bq_mem_no (hx i) hc hf ha),
    bq_C_ext d (bq_mem x (c ||| 2 ^ (6 + f) ||| 2 ^ f)) (fun i => bq_mem x c i && (x i).testBit f) (fun i _ => bq_mem_ye (hx i) hc hf ha)]
def bq_ask (w q : Nat) (g : Nat → Bool) (x : Nat → Nat) (n d c f : Nat) : Nat := q + bq_C w q g x n d (bq_mem x (c ||| 2 ^ (6 + f))) + bq_C w q g x n d (bq_mem x (c ||| 2 ^ (6 + f) ||| 2 ^ f))
theorem bq_next {w q : Nat} {g : Nat → Bool} {x : Nat → Nat} {n d c : Nat} (hx : ∀ i, x i < 64) (hc : bq_ok c) : bq_mu (bq_C w q g x n d (bq_mem x c)) (bq_ask w q g x n d c) (fun f => c.testBit (6 + f)) 6 = bq_C w q g x n (d + 1) (bq_mem x c) :=
  bq_step (fun f => c.testBit (6 + f)) (bq_ask w q g x n d c) (fun f hf ha => bq_askN hx hc hf ha) (fun f hf ha => bq_again hx hf ha)
theorem bq_ok0 : bq_ok 0 := by
  intro j _ h
  rw [Nat.zero_testBit] at h
  exact absurd h (by decide)
theorem bq_mem0 (x : Nat → Nat) (i : Nat) : bq_mem x 0 i = true := by
  show decide ((x i &&& (0 / 64)) = 0 % 64) = true
  rw [decide_eq_true_iff]
  exact Nat.and_zero _
/-! the doubtful ones, by feature sets and by samples -/
def bq_sum (t : Nat → Nat) : Nat → Nat
  | 0 => 0
  | k + 1 => bq_sum t k + t k
theorem bq_sum_ext {s t : Nat → Nat} : ∀ k, (∀ v, v < k → s v = t v) → bq_sum s k = bq_sum t k := by
  intro k
  induction k with
  | zero => intro _; rfl
  | succ k ih =>
    intro h
    show bq_sum s k + s k = bq_sum t k + t k
    rw [ih (fun v hv => h v (by omega)), h k (by omega)]
theorem bq_sum_add (s t : Nat → Nat) : ∀ k, bq_sum (fun v => s v + t v) k = bq_sum s k + bq_sum t k := by
  intro k
  induction k with
  | zero => rfl
  | succ k ih =>
    show bq_sum (fun v => s v + t v) k + (s k + t k) = (bq_sum s k + s k) + (bq_sum t k + t k)
    omega
theorem bq_sum_0 : ∀ k, bq_sum (fun _ => 0) k = 0 := by
  intro k
  induction k with
  | zero => rfl
  | succ k ih => show bq_sum (fun _ => 0) k + 0 = 0; omega
theorem bq_sum_1 (y e : Nat) : ∀ k, bq_sum (fun v => if y = v then e else 0) k = if y < k then e else 0 := by
  intro k
  induction k with
  | zero => rfl
  | succ k ih =>
    show bq_sum (fun v => if y = v then e else 0) k + (if y = k then e else 0) = _
    rw [ih]
    by_cases h : y < k
    · rw [if_pos h, if_neg (by omega), if_pos (by omega)]; rfl
    · by_cases h2 : y = k
      · rw [if_neg h, if_pos h2, if_pos (by omega)]; omega
      · rw [if_neg h, if_neg h2, if_neg (by omega)]
theorem bq_dsum (D : Nat → Bool) (x : Nat → Nat) (K : Nat) (hx : ∀ i, x i < K) : ∀ n, bq_sum (fun v => if D v = true then bq_cnt (fun i => decide (x i = v)) n else 0) K = bq_cnt (fun i => D (x i)) n := by
  intro n
  induction n with
  | zero =>
    refine Eq.trans (bq_sum_ext K (t := fun _ => 0) ?_) (bq_sum_0 K)
    intro v _
    show (if D v = true then 0 else 0) = 0
    split <;> rfl
  | succ n ih =>
    show _ = bq_cnt (fun i => D (x i)) n + (if D (x n) = true then 1 else 0)
    rw [← ih]
    have e := bq_sum_1 (x n) (if D (x n) = true then 1 else 0) K
    rw [if_pos (hx n)] at e
    rw [← e, ← bq_sum_add]
    apply bq_sum_ext
    intro v _
    show (if D v = true then bq_cnt (fun i => decide (x i = v)) n + (if decide (x n = v) = true then 1 else 0) else 0) = (if D v = true then bq_cnt (fun i => decide (x i = v)) n else 0) + (if x n = v then (if D (x n) = true then 1 else 0) else 0)
    by_cases h : x n = v
    · rw [if_pos h, h, if_pos (decide_eq_true rfl)]
      by_cases hd : D v = true
      · rw [if_pos hd, if_pos hd, if_pos hd]
      · rw [if_neg hd, if_neg hd, if_neg hd]
    · rw [if_neg h, decide_eq_false h]
      by_cases hd : D v = true
      · rw [if_pos hd, if_pos hd]; rfl
      · rw [if_neg hd, if_neg hd]
end
section
/-! sets as longs, features as ints -/
def bs_m (s : Int64) : Nat → Bool := fun i => s.toBitVec.getLsbD i
theorem bs_bit (s : Int64) {i : Nat} (hi : i < 64) : ((s >>> ((nI i).toInt64 &&& 63)) &&& 1) = 1 ↔ bs_m s i = true := by
  rw [wb_c i hi, ← Int64.toBitVec_inj, Int64.toBitVec_and]
  have e : (s >>> lN i).toBitVec = s.toBitVec.sshiftRight i := by
    show s.toBitVec.sshiftRight ((lN i).toBitVec.smod 64).toNat = _
    rw [wb_tb, wb_sm i hi, BitVec.toNat_ofNat, Nat.mod_eq_of_lt (by omega)]
  rw [e]
  show s.toBitVec.sshiftRight i &&& 1#64 = 1#64 ↔ s.toBitVec.getLsbD i = true
  have e0 : (s.toBitVec.sshiftRight i).getLsbD 0 = s.toBitVec.getLsbD i := by
    rw [BitVec.getLsbD_sshiftRight]
    simp [hi]
  constructor
  · intro h
    have t := congrArg (fun z => z.getLsbD 0) h
    rw [BitVec.getLsbD_and, e0] at t
    simpa using t
  · intro h
    apply BitVec.eq_of_getLsbD_eq
    intro j hj
    rw [BitVec.getLsbD_and]
    cases j with
    | zero => rw [e0, h]; rfl
    | succ j =>
      have z : (1#64).getLsbD (j + 1) = false := by simp
      rw [z, Bool.and_false]
theorem bs_or (r : Int64) {k i : Nat} (hk : k < 64) (hi : i < 64) : bs_m (r ||| ((1 : Int64) <<< ((nI k).toInt64 &&& 63))) i = (bs_m r i || decide (k = i)) := by
  have e : (1 : Int64) <<< ((nI k).toInt64 &&& 63) = lN (1 * 2 ^ k) := wb_shl 1 hk
  show (r ||| _).toBitVec.getLsbD i = (r.toBitVec.getLsbD i || decide (k = i))
  rw [e, Nat.one_mul, Int64.toBitVec_or, wb_tb, BitVec.getLsbD_or, BitVec.getLsbD_ofNat, Nat.testBit_two_pow, decide_eq_true hi, Bool.true_and]
theorem bs_and (s r : Int64) {i : Nat} (hi : i < 64) : bs_m (s &&& (r ^^^ (-1))) i = (bs_m s i && !bs_m r i) := by
  show (s &&& (r ^^^ (-1))).toBitVec.getLsbD i = (s.toBitVec.getLsbD i && !r.toBitVec.getLsbD i)
  have ha : (-1 : Int64).toBitVec = BitVec.allOnes 64 := by decide
  rw [Int64.toBitVec_and, Int64.toBitVec_xor, ha, BitVec.getLsbD_and, BitVec.getLsbD_xor, BitVec.getLsbD_allOnes, decide_eq_true hi, Bool.xor_true]
theorem bs_all {n i : Nat} (hn : n ≤ 48) (hi : i < 64) : bs_m (((1 : Int64) <<< ((nI n).toInt64 &&& 63)) - 1) i = decide (i < n) := by
  have e : (1 : Int64) <<< ((nI n).toInt64 &&& 63) = lN (1 * 2 ^ n) := wb_shl 1 (by omega)
  have e2 : lN (2 ^ n) - 1 = lN (2 ^ n - 1) := lN_sub (b := 1) Nat.one_le_two_pow
  rw [e, Nat.one_mul, e2]
  show (lN (2 ^ n - 1)).toBitVec.getLsbD i = _
  rw [wb_tb, BitVec.getLsbD_ofNat, Nat.testBit_two_pow_sub_one, decide_eq_true hi, Bool.true_and]
theorem bs_zero (i : Nat) : bs_m 0 i = false := by
  show (0 : Int64).toBitVec.getLsbD i = false
  rw [show (0 : Int64).toBitVec = 0#64 from rfl]
  simp
theorem bs_fb {x k f : Nat} (hx : x < 64) (hf : k < 32) : ((nI x >>> (nI k &&& 31)) &&& 1) = nI (x / 2 ^ k % 2) := by
  have h : x / 2 ^ k ≤ x := Nat.div_le_self _ _
  rw [pk_shrN (by omega) _ k (s_l k hf), pk_andN (by omega) 1 (by decide)]
theorem bs_fb0 {x f : Nat} (hx : x < 64) (hf : f < 6) : ((nI x >>> (nI f &&& 31)) &&& 1) = 0 ↔ x.testBit f = false := by
  rw [bs_fb (f := f) hx (by omega), show (0 : Int32) = nI 0 from rfl, nI_eq (by omega) (by omega), Nat.testBit_eq_decide_div_mod_eq, decide_eq_false_iff_not]
  omega
theorem bs_ia {c f : Nat} (hc : c < 4096) (hf : f < 6) : ((nI c >>> ((6 + nI f) &&& 31)) &&& 1) = 1 ↔ c.testBit (6 + f) = true := by
  have h : c / 2 ^ (6 + f) ≤ c := Nat.div_le_self _ _
  rw [show (6 : Int32) + nI f = nI (6 + f) from nI_add 6 f, pk_shrN (by omega) _ (6 + f) (s_l (6 + f) (by omega)), pk_andN (by omega) 1 (by decide), show (1 : Int32) = nI 1 from rfl, nI_eq (by omega) (by omega), Nat.testBit_eq_decide_div_mod_eq, decide_eq_true_iff]
theorem bs_nor (a b : Nat) : nI a ||| nI b = nI (a ||| b) := by
  apply Int32.toBitVec_inj.1
  show BitVec.ofNat 32 a ||| BitVec.ofNat 32 b = BitVec.ofNat 32 (a ||| b)
  apply BitVec.eq_of_getLsbD_eq
  intro i hi
  simp [hi]
theorem bs_p1 : ∀ f, f < 6 → (1 : Int32) <<< ((6 + nI f) &&& 31) = nI (2 ^ (6 + f)) := by decide +kernel
theorem bs_p2 : ∀ f, f < 6 → (1 : Int32) <<< (nI f &&& 31) = nI (2 ^ f) := by decide +kernel
theorem bs_no (c : Nat) {f : Nat} (hf : f < 6) : nI c ||| ((1 : Int32) <<< ((6 + nI f) &&& 31)) = nI (c ||| 2 ^ (6 + f)) := by
  rw [bs_p1 f hf, bs_nor]
theorem bs_ye (c : Nat) {f : Nat} (hf : f < 6) : nI (c ||| 2 ^ (6 + f)) ||| ((1 : Int32) <<< (nI f &&& 31)) = nI (c ||| 2 ^ (6 + f) ||| 2 ^ f) := by
  rw [bs_p2 f hf, bs_nor]
theorem bs_andlt {x a : Nat} (ha : a < 64) : x &&& a < 64 := Nat.lt_of_le_of_lt Nat.and_le_right ha
theorem bs_cell {x a : Nat} (ha : a < 64) : (nI a <<< ((6 : Int32) &&& 31)) ||| (nI x &&& nI a) = nI (a * 64 + (x &&& a)) := by
  rw [pk_shlN ((6 : Int32) &&& 31) 6 (by decide) (by omega), nx_and, bs_nor]
  have h := Nat.two_pow_add_eq_or_of_lt (i := 6) (b := x &&& a) (bs_andlt ha) a
  rw [show a * 2 ^ 6 = 2 ^ 6 * a from Nat.mul_comm _ _, ← h]
theorem bs_nar {y : Int32} (h : y = 0 ∨ y = 1) : vp_nar .boolean y = y := by
  rcases h with rfl | rfl <;> rfl
end
section
/-! the reference's walks, each against its pure value -/
def bs_g (G : Nat → Int32) : Nat → Bool := fun i => decide (¬ G i = 0)
theorem bs_g0 {G : Nat → Int32} {i : Nat} (h : G i = 0) : bs_g G i = false := decide_eq_false (fun z => z h)
theorem bs_g1 {G : Nat → Int32} {i : Nat} (h : ¬ G i = 0) : bs_g G i = true := decide_eq_true h
theorem bs_cT {p : Nat → Bool} {k : Nat} (h : p k = true) : bq_cnt p (k + 1) = bq_cnt p k + 1 := by
  show bq_cnt p k + (if p k = true then 1 else 0) = _
  rw [if_pos h]
theorem bs_cF {p : Nat → Bool} {k : Nat} (h : p k = false) : bq_cnt p (k + 1) = bq_cnt p k := by
  show bq_cnt p k + (if p k = true then 1 else 0) = _
  rw [h]; rfl
theorem bs_6g {k : Nat} (h : k < 6) : ¬ (6 : Int32) ≤ nI k := nI_ge (b := 6) h (by decide)
theorem bs_6l : (6 : Int32) ≤ nI 6 := by decide
theorem by_part_6 (n : Nat) (hn : n ≤ 48) (M A : Int32) (F G : Nat → Int32) (x : Nat → Nat) (hF : ∀ i, F i = nI (x i)) (hx : ∀ i, x i < 64)
    (post : Int64 → Prop) (s : Int64) (f : Nat) (hf : f < 6)
    (H : ∀ r : Int64, (∀ i, i < 64 → bs_m r i = (decide (i < n) && (bs_m s i && !(x i).testBit f))) → post r) :
    ∀ e k r, k + e = n → (∀ i, i < 64 → bs_m r i = (decide (i < k) && (bs_m s i && !(x i).testBit f))) → wY_part_6 post s (nI f) 0 (nI n) M A F G (e + 1) r (nI k) := by
  intro e
  induction e with
  | zero =>
    intro k r hk hr
    have hk' : k = n := by omega
    subst hk'
    exact br_t (nI_le (Nat.le_refl _) (by omega)) (H r hr)
  | succ e ih =>
    intro k r hk hr
    have hkn : ¬ nI n ≤ nI k := nI_ge (by omega) (by omega)
    refine br_f hkn ?_
    by_cases hb : bs_m s k = true
    · refine br_t ((bs_bit s (by omega)).2 hb) ⟨vp_in_nI (by omega) (by omega), br_t rfl ?_⟩
      have hz : ((F (nI k).toNatClampNeg >>> (nI f &&& 31)) &&& 1) = 0 ↔ (x k).testBit f = false := by
        rw [nI_clamp (by omega), hF]
        exact bs_fb0 (hx k) hf
      by_cases hxf : (x k).testBit f = false
      · refine br_t (hz.2 hxf) (nm_e (nm_r (nI_1 k) (ih (k + 1) _ (by omega) ?_)))
        intro i hi
        rw [bs_or r (by omega) hi, hr i hi]
        by_cases e1 : k = i
        · subst e1
          rw [hb, hxf, decide_eq_true rfl, decide_eq_true (show k < k + 1 by omega), Bool.or_true]; rfl
        · rw [decide_eq_false e1, Bool.or_false]
          congr 1
          exact decide_eq_decide.mpr (by omega)
      · refine br_f (fun z => hxf (hz.1 z)) (nm_r (nI_1 k) (ih (k + 1) _ (by omega) ?_))
        intro i hi
        rw [hr i hi]
        by_cases e1 : k = i
        · subst e1
          have hxt : (x k).testBit f = true := by cases h : (x k).testBit f <;> first | rfl | exact absurd h hxf
          rw [hxt, Bool.not_true, Bool.and_false, Bool.and_false, Bool.and_false]
        · congr 1
          exact decide_eq_decide.mpr (by omega)
    · refine br_f (fun z => hb ((bs_bit s (by omega)).1 z)) (nm_r (nI_1 k) (ih (k + 1) _ (by omega) ?_))
      intro i hi
      rw [hr i hi]
      by_cases e1 : k = i
      · subst e1
        have hbf : bs_m s k = false := by cases h : bs_m s k <;> first | rfl | exact absurd h hb
        rw [hbf, Bool.false_and, Bool.and_false, Bool.and_false]
      · congr 1
        exact decide_eq_decide.mpr (by omega)
theorem by_part (n : Nat) (hn : n ≤ 48) (M A : Int32) (F G : Nat → Int32) (x : Nat → Nat) (hF : ∀ i, F i = nI (x i)) (hx : ∀ i, x i < 64) (w q : Nat) (g : Nat → Bool)
    (post : Int64 → Prop) (s : Int64) (f : Nat) (hf : f < 6)
    (H : ∀ r : Int64, (∀ d, bq_C w q g x n d (bs_m r) = bq_C w q g x n d (fun i => bs_m s i && !(x i).testBit f)) → (∀ d, bq_C w q g x n d (bs_m (s &&& (r ^^^ (-1)))) = bq_C w q g x n d (fun i => bs_m s i && (x i).testBit f)) → post r) :
    wpY_part post (nI n, M, A, F, G) s (nI f) 0 := by
  refine ⟨n + 1, by_part_6 n hn M A F G x hF hx post s f hf ?_ n 0 0 (by omega) ?_⟩
  · intro r hr
    refine H r (fun d => bq_C_ext d _ _ (fun i hi => ?_)) (fun d => bq_C_ext d _ _ (fun i hi => ?_))
    · rw [hr i (by omega), decide_eq_true hi, Bool.true_and]
    · rw [bs_and s r (by omega), hr i (by omega), decide_eq_true hi, Bool.true_and]
      cases bs_m s i <;> cases (x i).testBit f <;> rfl
  · intro i hi
    rw [bs_zero, decide_eq_false (Nat.not_lt_zero i), Bool.false_and]
theorem by_leaf_8 (n : Nat) (hn : n ≤ 48) (w : Nat) (A : Int32) (F G : Nat → Int32)
    (post : Int32 → Prop) (s : Int64) (H : post (nI (bq_leaf w (bs_g G) n (bs_m s)))) :
    ∀ e k, k + e = n → wY_leaf_8 post s (nI n) (nI w) A F G (e + 1) (nI (bq_cnt (fun i => bs_m s i && bs_g G i) k)) (nI (bq_cnt (fun i => bs_m s i && !bs_g G i) k)) (nI k) := by
  intro e
  induction e with
  | zero =>
    intro k hk
    have hk' : k = n := by omega
    subst hk'
    refine br_t (nI_le (Nat.le_refl _) (by omega)) ?_
    have l1 := bq_cnt_le (fun i => bs_m s i && bs_g G i) k
    have l2 := bq_cnt_le (fun i => bs_m s i && !bs_g G i) k
    unfold bq_leaf at H
    refine pk_le _ _ (fun h => ?_) (fun h => ?_) rfl rfl (by omega) (by omega)
    · rw [if_pos h] at H
      rw [pk_mul]; exact H
    · rw [if_neg (by omega)] at H
      rw [pk_mul]; exact H
  | succ e ih =>
    intro k hk
    have hkn : ¬ nI n ≤ nI k := nI_ge (by omega) (by omega)
    have hi : vp_in (nI k) 48 := vp_in_nI (by omega) (by omega)
    have J := ih (k + 1) (by omega)
    refine br_f hkn ?_
    by_cases hb : bs_m s k = true
    · have hB := (bs_bit s (i := k) (by omega)).2 hb
      by_cases hg : G k = 0
      · have hg' : G (nI k).toNatClampNeg = 0 := by rw [nI_clamp (by omega)]; exact hg
        rw [bs_cF (p := fun i => bs_m s i && bs_g G i) (by show (bs_m s k && bs_g G k) = false; rw [hb, bs_g0 hg]; rfl), bs_cT (p := fun i => bs_m s i && !bs_g G i) (by show (bs_m s k && !bs_g G k) = true; rw [hb, bs_g0 hg]; rfl)] at J
        exact br_t hB ⟨hi, br_t hg' (br_t hB ⟨hi, br_t hg' (nm_r (nI_1 _) (nm_r (nI_1 _) J))⟩)⟩
      · have hg' : ¬ G (nI k).toNatClampNeg = 0 := by rw [nI_clamp (by omega)]; exact hg
        rw [bs_cT (p := fun i => bs_m s i && bs_g G i) (by show (bs_m s k && bs_g G k) = true; rw [hb, bs_g1 hg]; rfl), bs_cF (p := fun i => bs_m s i && !bs_g G i) (by show (bs_m s k && !bs_g G k) = false; rw [hb, bs_g1 hg]; rfl)] at J
        exact br_t hB ⟨hi, br_f hg' (nm_r (nI_1 _) (br_t hB ⟨hi, br_f hg' (nm_r (nI_1 _) J)⟩))⟩
    · have hB : ¬ ((s >>> ((nI k).toInt64 &&& 63)) &&& 1) = 1 := fun z => hb ((bs_bit s (by omega)).1 z)
      have hbf : bs_m s k = false := by cases h : bs_m s k <;> first | rfl | exact absurd h hb
      rw [bs_cF (p := fun i => bs_m s i && bs_g G i) (by show (bs_m s k && bs_g G k) = false; rw [hbf]; rfl), bs_cF (p := fun i => bs_m s i && !bs_g G i) (by show (bs_m s k && !bs_g G k) = false; rw [hbf]; rfl)] at J
      exact br_f hB (br_f hB (nm_r (nI_1 _) J))
theorem by_leaf (n : Nat) (hn : n ≤ 48) (w : Nat) (A : Int32) (F G : Nat → Int32)
    (post : Int32 → Prop) (s : Int64) (H : post (nI (bq_leaf w (bs_g G) n (bs_m s)))) : wpY_leaf post (nI n, nI w, A, F, G) s :=
  ⟨n + 1, by_leaf_8 n hn w A F G post s H n 0 (by omega)⟩
theorem by_one_9 (n : Nat) (hn : n ≤ 48) (w q : Nat) (hw : w ≤ 100) (hq : q ≤ 20) (F G : Nat → Int32) (x : Nat → Nat) (hF : ∀ i, F i = nI (x i)) (hx : ∀ i, x i < 64)
    (post : Int32 → Prop) (s : Int64) (H : post (nI (bq_C w q (bs_g G) x n 1 (bs_m s)))) :
    ∀ e k, k + e = 6 → wY_one_9 post s (nI n) (nI w) (nI q) F G (e + 1) (nI (bq_min (bq_leaf w (bs_g G) n (bs_m s)) (bq_opt w q (bs_g G) x n 0 (bs_m s)) k)) (nI k) := by
  intro e
  induction e with
  | zero =>
    intro k hk
    have hk' : k = 6 := by omega
    subst hk'
    exact br_t bs_6l H
  | succ e ih =>
    intro k hk
    have J := ih (k + 1) (by omega)
    refine br_f (bs_6g (by omega)) ?_
    refine by_part n hn (nI w) (nI q) F G x hF hx w q (bs_g G) _ s k (by omega) (fun r h1 h2 => ?_)
    refine by_leaf n hn w (nI q) F G _ _ ?_
    refine by_leaf n hn w (nI q) F G _ _ ?_
    have hwn : w * n ≤ 4800 := Nat.mul_le_mul hw hn
    have b0 := bq_C_le w q (bs_g G) x n 0 (fun i => bs_m s i && !(x i).testBit k)
    have b1 := bq_C_le w q (bs_g G) x n 0 (fun i => bs_m s i && (x i).testBit k)
    have b2 := Nat.le_trans ((bq_min_iff (bq_leaf w (bs_g G) n (bs_m s)) (bq_opt w q (bs_g G) x n 0 (bs_m s)) _ k).1 (Nat.le_refl _)).1 (bq_leaf_le w (bs_g G) n (bs_m s))
    have v : (nI q + nI (bq_leaf w (bs_g G) n (bs_m r))) + nI (bq_leaf w (bs_g G) n (bs_m (s &&& (r ^^^ (-1))))) = nI (bq_opt w q (bs_g G) x n 0 (bs_m s) k) := by
      have e1 : bq_leaf w (bs_g G) n (bs_m r) = bq_C w q (bs_g G) x n 0 (fun i => bs_m s i && !(x i).testBit k) := h1 0
      have e2 : bq_leaf w (bs_g G) n (bs_m (s &&& (r ^^^ (-1)))) = bq_C w q (bs_g G) x n 0 (fun i => bs_m s i && (x i).testBit k) := h2 0
      rw [e1, e2, nI_add, nI_add]; rfl
    refine nm_r v ?_
    have b3 : bq_opt w q (bs_g G) x n 0 (bs_m s) k ≤ 10000 := by unfold bq_opt; omega
    refine pk_le _ _ (fun h => nm_r (nI_1 k) ?_) (fun h => nm_r (nI_1 k) ?_) rfl rfl (by omega) (by omega)
    · have e3 : bq_min (bq_leaf w (bs_g G) n (bs_m s)) (bq_opt w q (bs_g G) x n 0 (bs_m s)) (k + 1) = bq_min (bq_leaf w (bs_g G) n (bs_m s)) (bq_opt w q (bs_g G) x n 0 (bs_m s)) k := if_pos h
      rw [e3] at J; exact J
    · have e3 : bq_min (bq_leaf w (bs_g G) n (bs_m s)) (bq_opt w q (bs_g G) x n 0 (bs_m s)) (k + 1) = bq_opt w q (bs_g G) x n 0 (bs_m s) k := if_neg (by omega)
      rw [e3] at J; exact J
theorem by_one (n : Nat) (hn : n ≤ 48) (w q : Nat) (hw : w ≤ 100) (hq : q ≤ 20) (F G : Nat → Int32) (x : Nat → Nat) (hF : ∀ i, F i = nI (x i)) (hx : ∀ i, x i < 64)
    (post : Int32 → Prop) (s : Int64) (H : post (nI (bq_C w q (bs_g G) x n 1 (bs_m s)))) : wpY_one post (nI n, nI w, nI q, F, G) s := by
  unfold wpY_one
  dsimp only
  refine by_leaf n hn w (nI q) F G _ s ?_
  exact ⟨7, by_one_9 n hn w q hw hq F G x hF hx post s H 6 0 rfl⟩
end
section
/-! the reference's walks, part two -/
theorem by_two_9 (n : Nat) (hn : n ≤ 48) (w q : Nat) (hw : w ≤ 100) (hq : q ≤ 20) (F G : Nat → Int32) (x : Nat → Nat) (hF : ∀ i, F i = nI (x i)) (hx : ∀ i, x i < 64)
    (post : Int32 → Prop) (s : Int64) (H : post (nI (bq_C w q (bs_g G) x n 2 (bs_m s)))) :
    ∀ e k, k + e = 6 → wY_two_9 post s (nI n) (nI w) (nI q) F G (e + 1) (nI (bq_min (bq_leaf w (bs_g G) n (bs_m s)) (bq_opt w q (bs_g G) x n 1 (bs_m s)) k)) (nI k) := by
  intro e
  induction e with
  | zero =>
    intro k hk
    have hk' : k = 6 := by omega
    subst hk'
    exact br_t bs_6l H
  | succ e ih =>
    intro k hk
    have J := ih (k + 1) (by omega)
    refine br_f (bs_6g (by omega)) ?_
    refine by_part n hn (nI w) (nI q) F G x hF hx w q (bs_g G) _ s k (by omega) (fun r h1 h2 => ?_)
    refine by_one n hn w q hw hq F G x hF hx _ _ ?_
    refine by_one n hn w q hw hq F G x hF hx _ _ ?_
    have hwn : w * n ≤ 4800 := Nat.mul_le_mul hw hn
    have b0 := bq_C_le w q (bs_g G) x n 1 (fun i => bs_m s i && !(x i).testBit k)
    have b1 := bq_C_le w q (bs_g G) x n 1 (fun i => bs_m s i && (x i).testBit k)
    have b2 := Nat.le_trans ((bq_min_iff (bq_leaf w (bs_g G) n (bs_m s)) (bq_opt w q (bs_g G) x n 1 (bs_m s)) _ k).1 (Nat.le_refl _)).1 (bq_leaf_le w (bs_g G) n (bs_m s))
    have v : (nI q + nI (bq_C w q (bs_g G) x n 1 (bs_m r))) + nI (bq_C w q (bs_g G) x n 1 (bs_m (s &&& (r ^^^ (-1))))) = nI (bq_opt w q (bs_g G) x n 1 (bs_m s) k) := by
      rw [h1 1, h2 1, nI_add, nI_add]; rfl
    refine nm_r v ?_
    have b3 : bq_opt w q (bs_g G) x n 1 (bs_m s) k ≤ 10000 := by unfold bq_opt; omega
    refine pk_le _ _ (fun h => nm_r (nI_1 k) ?_) (fun h => nm_r (nI_1 k) ?_) rfl rfl (by omega) (by omega)
    · have e3 : bq_min (bq_leaf w (bs_g G) n (bs_m s)) (bq_opt w q (bs_g G) x n 1 (bs_m s)) (k + 1) = bq_min (bq_leaf w (bs_g G) n (bs_m s)) (bq_opt w q (bs_g G) x n 1 (bs_m s)) k := if_pos h
      rw [e3] at J; exact J
    · have e3 : bq_min (bq_leaf w (bs_g G) n (bs_m s)) (bq_opt w q (bs_g G) x n 1 (bs_m s)) (k + 1) = bq_opt w q (bs_g G) x n 1 (bs_m s) k := if_neg (by omega)
      rw [e3] at J; exact J
theorem by_two (n : Nat) (hn : n ≤ 48) (w q : Nat) (hw : w ≤ 100) (hq : q ≤ 20) (F G : Nat → Int32) (x : Nat → Nat) (hF : ∀ i, F i = nI (x i)) (hx : ∀ i, x i < 64)
    (post : Int32 → Prop) (s : Int64) (H : post (nI (bq_C w q (bs_g G) x n 2 (bs_m s)))) : wpY_two post (nI n, nI w, nI q, F, G) s := by
  unfold wpY_two
  dsimp only
  refine by_leaf n hn w (nI q) F G _ s ?_
  exact ⟨7, by_two_9 n hn w q hw hq F G x hF hx post s H 6 0 rfl⟩
theorem by_least (n : Nat) (hn : n ≤ 48) (w q : Nat) (hw : w ≤ 100) (hq : q ≤ 20) (F G : Nat → Int32) (x : Nat → Nat) (hF : ∀ i, F i = nI (x i)) (hx : ∀ i, x i < 64)
    (post : Int32 → Prop) (s : Int64) (d : Nat) (hd : d ≤ 2) (H : post (nI (bq_C w q (bs_g G) x n d (bs_m s)))) : wpY_least post (nI n, nI w, nI q, F, G) s (nI d) := by
  unfold wpY_least
  dsimp only
  match d, hd, H with
  | 0, _, H => exact br_t rfl (by_leaf n hn w (nI q) F G _ s H)
  | 1, _, H => exact br_f (by decide) (br_t rfl (by_one n hn w q hw hq F G x hF hx _ s H))
  | 2, _, H => exact br_f (by decide) (br_f (by decide) (by_two n hn w q hw hq F G x hF hx _ s H))
def bq_T : Nat → Bool := fun _ => true
theorem bq_opt_ext {w q : Nat} {g : Nat → Bool} {x : Nat → Nat} {n d : Nat} {p p' : Nat → Bool} (h : ∀ i, i < n → p i = p' i) (f : Nat) : bq_opt w q g x n d p f = bq_opt w q g x n d p' f := by
  unfold bq_opt
  rw [bq_C_ext d (fun i => p i && !(x i).testBit f) (fun i => p' i && !(x i).testBit f) (fun i hi => by show (p i && _) = (p' i && _); rw [h i hi]),
    bq_C_ext d (fun i => p i && (x i).testBit f) (fun i => p' i && (x i).testBit f) (fun i hi => by show (p i && _) = (p' i && _); rw [h i hi])]
theorem by_allT {n : Nat} (hn : n ≤ 48) : ∀ i, i < n → bs_m (((1 : Int64) <<< ((nI n).toInt64 &&& 63)) - 1) i = bq_T i := by
  intro i hi
  rw [bs_all hn (by omega), decide_eq_true hi]; rfl
theorem by_by (n : Nat) (hn : n ≤ 48) (w q : Nat) (hw : w ≤ 100) (hq : q ≤ 20) (F G : Nat → Int32) (x : Nat → Nat) (hF : ∀ i, F i = nI (x i)) (hx : ∀ i, x i < 64)
    (post : Int32 → Prop) (d : Nat) (hd : d ≤ 2) (f : Nat) (hf : f < 6) (H : post (nI (bq_opt w q (bs_g G) x n d bq_T f))) : wpY_by post (nI n, nI w, nI q, F, G) (nI (d + 1)) (nI f) := by
  unfold wpY_by
  dsimp only
  unfold wpY_all
  dsimp only
  refine by_part n hn (nI w) (nI q) F G x hF hx w q (bs_g G) _ _ f hf (fun r h1 h2 => ?_)
  rw [nI_pred]
  refine by_least n hn w q hw hq F G x hF hx _ _ d hd ?_
  refine by_least n hn w q hw hq F G x hF hx _ _ d hd ?_
  rw [h1 d, h2 d, nI_add, nI_add]
  rw [← bq_opt_ext (by_allT hn) f] at H
  exact H
theorem by_cheapest_15 (n : Nat) (hn : n ≤ 48) (w q : Nat) (hw : w ≤ 100) (hq : q ≤ 20) (F G : Nat → Int32) (x : Nat → Nat) (hF : ∀ i, F i = nI (x i)) (hx : ∀ i, x i < 64)
    (post : Int32 → Prop) (d : Nat) (hd : d ≤ 2) (H : post (nI (bq_C w q (bs_g G) x n (d + 1) bq_T))) :
    ∀ e k, k + e = 6 → wY_cheapest_15 post (nI (d + 1)) (nI n) (nI w) (nI q) F G (e + 1) (nI (bq_min (bq_leaf w (bs_g G) n bq_T) (bq_opt w q (bs_g G) x n d bq_T) k)) (nI k) := by
  intro e
  induction e with
  | zero =>
    intro k hk
    have hk' : k = 6 := by omega
    subst hk'
    exact br_t bs_6l H
  | succ e ih =>
    intro k hk
    have J := ih (k + 1) (by omega)
    refine br_f (bs_6g (by omega)) (br_f (nI_nle (by omega) (by omega)) ?_)
    refine by_by n hn w q hw hq F G x hF hx _ d hd k (by omega) ?_
    have hwn : w * n ≤ 4800 := Nat.mul_le_mul hw hn
    have b0 := bq_C_le w q (bs_g G) x n d (fun i => bq_T i && !(x i).testBit k)
    have b1 := bq_C_le w q (bs_g G) x n d (fun i => bq_T i && (x i).testBit k)
    have b2 := Nat.le_trans ((bq_min_iff (bq_leaf w (bs_g G) n bq_T) (bq_opt w q (bs_g G) x n d bq_T) _ k).1 (Nat.le_refl _)).1 (bq_leaf_le w (bs_g G) n bq_T)
    have b3 : bq_opt w q (bs_g G) x n d bq_T k ≤ 10000 := by unfold bq_opt; omega
    refine pk_le _ _ (fun h => nm_r (nI_1 k) ?_) (fun h => nm_r (nI_1 k) ?_) rfl rfl (by omega) (by omega)
    · have e3 : bq_min (bq_leaf w (bs_g G) n bq_T) (bq_opt w q (bs_g G) x n d bq_T) (k + 1) = bq_min (bq_leaf w (bs_g G) n bq_T) (bq_opt w q (bs_g G) x n d bq_T) k := if_pos h
      rw [e3] at J; exact J
    · have e3 : bq_min (bq_leaf w (bs_g G) n bq_T) (bq_opt w q (bs_g G) x n d bq_T) (k + 1) = bq_opt w q (bs_g G) x n d bq_T k := if_neg (by omega)
      rw [e3] at J; exact J
theorem by_cheapest (n : Nat) (hn : n ≤ 48) (w q : Nat) (hw : w ≤ 100) (hq : q ≤ 20) (F G : Nat → Int32) (x : Nat → Nat) (hF : ∀ i, F i = nI (x i)) (hx : ∀ i, x i < 64)
    (post : Int32 → Prop) (d : Nat) (hd : d ≤ 3) (H : post (nI (bq_C w q (bs_g G) x n d bq_T))) : wpY_cheapest post (nI n, nI w, nI q, F, G) (nI d) := by
  unfold wpY_cheapest
  dsimp only
  unfold wpY_all
  dsimp only
  refine by_leaf n hn w (nI q) F G _ _ ?_
  rw [bq_leaf_ext (by_allT hn)]
  cases d with
  | zero => exact ⟨1, br_f (bs_6g (k := 0) (by decide)) (br_t (by decide) H)⟩
  | succ d => exact ⟨7, by_cheapest_15 n hn w q hw hq F G x hF hx post d (by omega) H 6 0 rfl⟩
def bq_arg (o : Nat → Nat) : Nat → Nat
  | 0 => 0
  | k + 1 => if o (bq_arg o k) ≤ o (k + 1) then bq_arg o k else k + 1
theorem bq_arg_le (o : Nat → Nat) : ∀ k, bq_arg o k ≤ k := by
  intro k
  induction k with
  | zero => exact Nat.le_refl 0
  | succ k ih =>
    show (if o (bq_arg o k) ≤ o (k + 1) then bq_arg o k else k + 1) ≤ k + 1
    split <;> omega
theorem by_opt_le (n : Nat) (hn : n ≤ 48) (w q : Nat) (hw : w ≤ 100) (hq : q ≤ 20) (g : Nat → Bool) (x : Nat → Nat) (d : Nat) (p : Nat → Bool) (f : Nat) : bq_opt w q g x n d p f ≤ 10000 := by
  have hwn : w * n ≤ 4800 := Nat.mul_le_mul hw hn
  have b0 := bq_C_le w q g x n d (fun i => p i && !(x i).testBit f)
  have b1 := bq_C_le w q g x n d (fun i => p i && (x i).testBit f)
  unfold bq_opt; omega
theorem by_question_28 (n : Nat) (hn : n ≤ 48) (w q : Nat) (hw : w ≤ 100) (hq : q ≤ 20) (F G : Nat → Int32) (x : Nat → Nat) (hF : ∀ i, F i = nI (x i)) (hx : ∀ i, x i < 64)
    (post : Int32 → SY → Prop) (d : Nat) (hd : d ≤ 2) (H : post (nI (bq_arg (bq_opt w q (bs_g G) x n d bq_T) 5)) (nI n, nI w, nI q, F, G)) :
    ∀ e k, k + e = 5 → wY_question_28 post (nI (d + 1)) (nI n) (nI w) (nI q) F G (e + 1) (nI (bq_arg (bq_opt w q (bs_g G) x n d bq_T) k)) (nI (k + 1)) := by
  intro e
  induction e with
  | zero =>
    intro k hk
    have hk' : k = 5 := by omega
    subst hk'
    exact br_t bs_6l H
  | succ e ih =>
    intro k hk
    have J := ih (k + 1) (by omega)
    have la := bq_arg_le (bq_opt w q (bs_g G) x n d bq_T) k
    refine br_f (bs_6g (by omega)) ?_
    refine by_by n hn w q hw hq F G x hF hx _ d hd (k + 1) (by omega) ?_
    refine by_by n hn w q hw hq F G x hF hx _ d hd _ (by omega) ?_
    have b1 := by_opt_le n hn w q hw hq (bs_g G) x d bq_T (k + 1)
    have b2 := by_opt_le n hn w q hw hq (bs_g G) x d bq_T (bq_arg (bq_opt w q (bs_g G) x n d bq_T) k)
    refine pk_le _ _ (fun h => nm_r (nI_1 (k + 1)) ?_) (fun h => nm_r (nI_1 (k + 1)) ?_) rfl rfl (by omega) (by omega)
    · have e3 : bq_arg (bq_opt w q (bs_g G) x n d bq_T) (k + 1) = bq_arg (bq_opt w q (bs_g G) x n d bq_T) k := if_pos h
      rw [e3] at J; exact J
    · have e3 : bq_arg (bq_opt w q (bs_g G) x n d bq_T) (k + 1) = k + 1 := if_neg (by omega)
      rw [e3] at J; exact J
/-! doubtful -/
def bq_f (G : Nat → Int32) (x : Nat → Nat) (i : Nat) : Nat → Bool := fun j => decide (x i = x j) && decide (¬ G i = G j)
def bq_fl (b : Nat) : Int32 := if 0 < b then 1 else 0
theorem by_doubtful_17 (n : Nat) (hn : n ≤ 48) (M A : Int32) (F G : Nat → Int32) (x : Nat → Nat) (hF : ∀ i, F i = nI (x i)) (hx : ∀ i, x i < 64)
    (post : Int32 → Prop) (J : Int32 → Int32 → Prop) (c i : Nat) (hi : i < n)
    (H : J (nI (c + (if 0 < bq_cnt (bq_f G x i) n then 1 else 0))) (nI (i + 1))) :
    ∀ e k, k + e = n → wY_doubtful_17 post J (nI c) (nI i) (nI n) M A F G (e + 1) (bq_fl (bq_cnt (bq_f G x i) k)) (nI k) := by
  intro e
  induction e with
  | zero =>
    intro k hk
    have hk' : k = n := by omega
    subst hk'
    refine br_t (nI_le (Nat.le_refl _) (by omega)) ?_
    by_cases h : 0 < bq_cnt (bq_f G x i) k
    · rw [if_pos h] at H
      rw [show bq_fl (bq_cnt (bq_f G x i) k) = 1 from if_pos h]
      exact br_f (by decide) (nm_r (nI_1 c) (nm_r (nI_1 i) H))
    · rw [if_neg h] at H
      rw [show bq_fl (bq_cnt (bq_f G x i) k) = 0 from if_neg h]
      exact br_t rfl (nm_r (nI_1 i) H)
  | succ e ih =>
    intro k hk
    have Z := ih (k + 1) (by omega)
    have hkn : ¬ nI n ≤ nI k := nI_ge (by omega) (by omega)
    have v1 : vp_in (nI i) 48 := vp_in_nI (by omega) (by omega)
    have v2 : vp_in (nI k) 48 := vp_in_nI (by omega) (by omega)
    have hFe : F (nI i).toNatClampNeg = F (nI k).toNatClampNeg ↔ x i = x k := by
      rw [nI_clamp (by omega), nI_clamp (by omega), hF, hF]
      have := hx i
      have := hx k
      exact nI_eq (by omega) (by omega)
    have hGe : G (nI i).toNatClampNeg = G (nI k).toNatClampNeg ↔ G i = G k := by
      rw [nI_clamp (by omega), nI_clamp (by omega)]
    refine br_f hkn ⟨v1, v2, ?_⟩
    by_cases hxe : x i = x k
    · refine br_t (hFe.2 hxe) ⟨v1, v2, ?_⟩
      by_cases hge : G i = G k
      · rw [bs_cF (p := bq_f G x i) (k := k) (by show (decide (x i = x k) && decide (¬ G i = G k)) = false; rw [decide_eq_false (fun z : ¬ G i = G k => z hge), Bool.and_false])] at Z
        exact br_t (hGe.2 hge) (nm_r (nI_1 k) Z)
      · rw [bs_cT (p := bq_f G x i) (k := k) (by show (decide (x i = x k) && decide (¬ G i = G k)) = true; rw [decide_eq_true hge, decide_eq_true hxe]; rfl)] at Z
        rw [show bq_fl (bq_cnt (bq_f G x i) k + 1) = 1 from if_pos (by omega)] at Z
        exact br_f (fun z => hge (hGe.1 z)) (nm_r (nI_1 k) Z)
    · rw [bs_cF (p := bq_f G x i) (k := k) (by show (decide (x i = x k) && decide (¬ G i = G k)) = false; rw [decide_eq_false hxe, Bool.false_and])] at Z
      exact br_f (fun z => hxe (hFe.1 z)) (nm_r (nI_1 k) Z)
def bq_w (G : Nat → Int32) (x : Nat → Nat) (n : Nat) : Nat → Bool := fun i => decide (0 < bq_cnt (bq_f G x i) n)
theorem by_doubtful_4 (n : Nat) (hn : n ≤ 48) (M A : Int32) (F G : Nat → Int32) (x : Nat → Nat) (hF : ∀ i, F i = nI (x i)) (hx : ∀ i, x i < 64)
    (post : Int32 → Prop) (H : post (nI (bq_cnt (bq_w G x n) n))) :
    ∀ e k, k + e = n → wY_doubtful_4 post (nI n) M A F G (e + 1) (nI (bq_cnt (bq_w G x n) k)) (nI k) := by
  intro e
  induction e with
  | zero =>
    intro k hk
    have hk' : k = n := by omega
    subst hk'
    exact br_t (nI_le (Nat.le_refl _) (by omega)) H
  | succ e ih =>
    intro k hk
    have Z := ih (k + 1) (by omega)
    refine br_f (nI_ge (by omega) (by omega)) ⟨n + 1, ?_⟩
    refine by_doubtful_17 n hn M A F G x hF hx post _ _ k (by omega) ?_ n 0 (by omega)
    have e3 : bq_cnt (bq_w G x n) (k + 1) = bq_cnt (bq_w G x n) k + (if 0 < bq_cnt (bq_f G x k) n then 1 else 0) := by
      show bq_cnt (bq_w G x n) k + (if decide (0 < bq_cnt (bq_f G x k) n) = true then 1 else 0) = _
      simp only [decide_eq_true_eq]
    rw [e3] at Z
    exact Z
theorem by_doubtful (n : Nat) (hn : n ≤ 48) (M A : Int32) (F G : Nat → Int32) (x : Nat → Nat) (hF : ∀ i, F i = nI (x i)) (hx : ∀ i, x i < 64)
    (post : Int32 → Prop) (H : post (nI (bq_cnt (bq_w G x n) n))) : wpY_doubtful post (nI n, M, A, F, G) :=
  ⟨n + 1, by_doubtful_4 n hn M A F G x hF hx post H n 0 (by omega)⟩
end
section
/-! the class's walks -/
def bx_bump (a : Nat → Int32) (x : Nat) (ch : Int32) (k : Nat) : Nat → Int32 := fun c => if c / 64 < k ∧ (x &&& (c / 64)) = c % 64 then a c + ch else a c
theorem bx_bump0 (a : Nat → Int32) (x : Nat) (ch : Int32) : bx_bump a x ch 0 = a := by
  funext c
  exact if_neg (fun z => absurd z.1 (Nat.not_lt_zero _))
theorem bx_bumpS (a : Nat → Int32) (x : Nat) (ch : Int32) {k : Nat} (hk : k < 64) : upd (bx_bump a x ch k) (k * 64 + (x &&& k)) (bx_bump a x ch k (k * 64 + (x &&& k)) + ch) = bx_bump a x ch (k + 1) := by
  funext c
  have hy : x &&& k < 64 := bs_andlt hk
  by_cases e : c = k * 64 + (x &&& k)
  · have h1 : c / 64 = k := by omega
    have h2 : c % 64 = x &&& k := by omega
    rw [← e, pk_us]
    show bx_bump a x ch k c + ch = (if c / 64 < k + 1 ∧ (x &&& (c / 64)) = c % 64 then a c + ch else a c)
    rw [show bx_bump a x ch k c = a c from if_neg (fun z => absurd z.1 (by omega)), if_pos ⟨by omega, by rw [h1, h2]⟩]
  · rw [pk_un e]
    show (if c / 64 < k ∧ (x &&& (c / 64)) = c % 64 then a c + ch else a c) = (if c / 64 < k + 1 ∧ (x &&& (c / 64)) = c % 64 then a c + ch else a c)
    by_cases h : c / 64 < k ∧ (x &&& (c / 64)) = c % 64
    · rw [if_pos h, if_pos ⟨by omega, h.2⟩]
    · rw [if_neg h, if_neg]
      intro z
      by_cases h3 : c / 64 = k
      · have z2 := z.2
        rw [h3] at z2
        exact e (by omega)
      · exact h ⟨by omega, z.2⟩
theorem bx_cell {post : Int32 → Prop} {k x : Nat} (hk : k < 64) (h : post (nI (k * 64 + (x &&& k)))) : wpX_cellOf post (nI k) (nI x) := by
  unfold wpX_cellOf
  rw [bs_cell hk]
  exact h
theorem bx_64l : (64 : Int32) ≤ nI 64 := by decide
theorem bx_64g {k : Nat} (h : k < 64) : ¬ (64 : Int32) ≤ nI k := nI_ge (b := 64) h (by decide)
theorem bx_4l : (4096 : Int32) ≤ nI 4096 := by decide
theorem bx_4g {k : Nat} (h : k < 4096) : ¬ (4096 : Int32) ≤ nI k := nI_ge (b := 4096) h (by decide)
theorem bx_cicB (post : SX → Prop) (fs : Int32) (a1 a2 G B L : Nat → Int32) (x : Nat) (gd ch : Int32) (hg : gd = 0) (H : post (fs, a1, a2, G, bx_bump B x ch 64, L)) :
    ∀ e k, k + e = 64 → wX_countInCells_3 post (nI x) gd ch fs (e + 1) (nI k) a1 a2 G (bx_bump B x ch k) L := by
  intro e
  induction e with
  | zero =>
    intro k hk
    have hk' : k = 64 := by omega
    subst hk'
    exact br_t bx_64l H
  | succ e ih =>
    intro k hk
    have hk' : k < 64 := by omega
    have hy : x &&& k < 64 := bs_andlt hk'
    have v : vp_in (nI (k * 64 + (x &&& k))) 4096 := vp_in_nI (by omega) (by omega)
    refine br_f (bx_64g hk') (bx_cell hk' (br_t hg ⟨v, v, nm_r ?_ (nm_r (nI_1 k) (ih (k + 1) (by omega)))⟩))
    rw [nI_clamp (by omega)]
    exact bx_bumpS B x ch hk'
theorem bx_cicG (post : SX → Prop) (fs : Int32) (a1 a2 G B L : Nat → Int32) (x : Nat) (gd ch : Int32) (hg : ¬ gd = 0) (H : post (fs, a1, a2, bx_bump G x ch 64, B, L)) :
    ∀ e k, k + e = 64 → wX_countInCells_3 post (nI x) gd ch fs (e + 1) (nI k) a1 a2 (bx_bump G x ch k) B L := by
  intro e
  induction e with
  | zero =>
    intro k hk
    have hk' : k = 64 := by omega
    subst hk'
    exact br_t bx_64l H
  | succ e ih =>
    intro k hk
    have hk' : k < 64 := by omega
    have hy : x &&& k < 64 := bs_andlt hk'
    have v : vp_in (nI (k * 64 + (x &&& k))) 4096 := vp_in_nI (by omega) (by omega)
    refine br_f (bx_64g hk') (bx_cell hk' (br_f hg ⟨v, v, nm_r ?_ (nm_r (nI_1 k) (ih (k + 1) (by omega)))⟩))
    rw [nI_clamp (by omega)]
    exact bx_bumpS G x ch hk'
def bx_sel (a : Nat → Int32) (x : Nat) (ch : Int32) (b : Prop) [Decidable b] : Nat → Int32 := if b then bx_bump a x ch 64 else a
theorem bx_cic (post : SX → Prop) (fs : Int32) (a1 a2 G B L : Nat → Int32) (x : Nat) (gd ch : Int32)
    (H : post (fs, a1, a2, bx_sel G x ch (¬ gd = 0), bx_sel B x ch (gd = 0), L)) : wpX_countInCells post (fs, a1, a2, G, B, L) (nI x) gd ch := by
  by_cases h : gd = 0
  · have e1 : bx_sel G x ch (¬ gd = 0) = G := if_neg (fun z => z h)
    have e2 : bx_sel B x ch (gd = 0) = bx_bump B x ch 64 := if_pos h
    rw [e1, e2] at H
    have := bx_cicB post fs a1 a2 G B L x gd ch h H 64 0 rfl
    rw [bx_bump0] at this
    exact ⟨_, this⟩
  · have e1 : bx_sel G x ch (¬ gd = 0) = bx_bump G x ch 64 := if_pos h
    have e2 : bx_sel B x ch (gd = 0) = B := if_neg h
    rw [e1, e2] at H
    have := bx_cicG post fs a1 a2 G B L x gd ch h H 64 0 rfl
    rw [bx_bump0] at this
    exact ⟨_, this⟩
theorem bx_ia1 {post : Int32 → Prop} {c f : Nat} (hc : c < 4096) (hf : f < 6) (ha : c.testBit (6 + f) = true) (h : post 1) : wpX_isAsked post (nI c) (nI f) :=
  br_t ((bs_ia hc hf).2 ha) h
theorem bx_ia0 {post : Int32 → Prop} {c f : Nat} (hc : c < 4096) (hf : f < 6) (ha : c.testBit (6 + f) = false) (h : post 0) : wpX_isAsked post (nI c) (nI f) :=
  br_f (fun z => absurd (((bs_ia hc hf).1 z).symm.trans ha) (by decide)) h
theorem bx_coa {post : Int32 → Prop} {fs Q : Int32} {a1 a2 G B L : Nat → Int32} {c f : Nat} (hc : c < 4096) (hf : f < 6) (h : post ((Q + L (c ||| 2 ^ (6 + f))) + L (c ||| 2 ^ (6 + f) ||| 2 ^ f))) :
    wpX_costOfAsking post (fs, a1, a2, G, B, L) (nI c) (nI f) Q := by
  have h1 := bq_no_lt hc hf
  have h2 := bq_ye_lt hc hf
  refine nm_r (bs_no c hf) (nm_r (bs_ye c hf) ⟨vp_in_nI h1 (by omega), vp_in_nI h2 (by omega), ?_⟩)
  rw [nI_clamp (by omega), nI_clamp (by omega)]
  exact h
def bx_I (w q : Nat) (g : Nat → Bool) (x : Nat → Nat) (n d k j : Nat) (L : Nat → Int32) : Prop :=
  (∀ c, c < 4096 → c ≠ k → bq_ok c → L c = nI (if c < k then bq_C w q g x n (d + 1) (bq_mem x c) else bq_C w q g x n d (bq_mem x c))) ∧
  (bq_ok k → L k = nI (bq_mu (bq_C w q g x n d (bq_mem x k)) (bq_ask w q g x n d k) (fun f => k.testBit (6 + f)) j))
theorem bx_ask (w q : Nat) (hw : w ≤ 100) (hq : q ≤ 20) (g : Nat → Bool) (x : Nat → Nat) (n : Nat) (hn : n ≤ 48) (d k : Nat) (hk : k < 4096)
    (post : SX → Prop) (J : Int32 → (Nat → Int32) → (Nat → Int32) → (Nat → Int32) → (Nat → Int32) → (Nat → Int32) → Prop) (fs : Int32) (a1 a2 G B : Nat → Int32)
    (H : ∀ L', bx_I w q g x n d k 6 L' → J (nI (k + 1)) a1 a2 G B L') :
    ∀ e j L, j + e = 6 → bx_I w q g x n d k j L → wX_allowOneDeeper_11 post J (nI q) (nI k) fs (e + 1) (nI j) a1 a2 G B L := by
  intro e
  induction e with
  | zero =>
    intro j L hj hI
    have hj' : j = 6 := by omega
    subst hj'
    exact br_t bs_6l (nm_r (nI_1 k) (H L hI))
  | succ e ih =>
    intro j L hj hI
    have hj' : j < 6 := by omega
    refine br_f (bs_6g hj') ?_
    cases ha : k.testBit (6 + j) with
    | true =>
      refine bx_ia1 hk hj' ha (br_f (by decide) (nm_r (nI_1 j) (ih (j + 1) L (by omega) ⟨hI.1, fun ok => ?_⟩)))
      rw [hI.2 ok]
      exact congrArg nI (if_pos ha).symm
    | false =>
      have vk : vp_in (nI k) 4096 := vp_in_nI hk (by omega)
      refine bx_ia0 hk hj' ha (br_t rfl (bx_coa hk hj' ⟨vk, ?_⟩))
      rw [nI_clamp (show k < 2 ^ 31 by omega)]
      have hr : bq_ok k → (nI q + L (k ||| 2 ^ (6 + j))) + L (k ||| 2 ^ (6 + j) ||| 2 ^ j) = nI (bq_ask w q g x n d k j) := by
        intro ok
        have g1 := bq_no_gt ha
        have g2 := bq_ye_gt ha
        rw [hI.1 _ (bq_no_lt hk hj') (by omega) (bq_ok_no ok hj'), hI.1 _ (bq_ye_lt hk hj') (by omega) (bq_ok_ye ok hj'), if_neg (by omega), if_neg (by omega), nI_add, nI_add]
        rfl
      have hwn : w * n ≤ 4800 := Nat.mul_le_mul hw hn
      have b0 := bq_C_le w q g x n d (bq_mem x (k ||| 2 ^ (6 + j)))
      have b1 := bq_C_le w q g x n d (bq_mem x (k ||| 2 ^ (6 + j) ||| 2 ^ j))
      have b2 : bq_ask w q g x n d k j ≤ 10000 := by unfold bq_ask; omega
      have b3 := Nat.le_trans ((bq_mu_iff (bq_C w q g x n d (bq_mem x k)) (bq_ask w q g x n d k) (fun f => k.testBit (6 + f)) _ j).1 (Nat.le_refl _)).1 (bq_C_le w q g x n d (bq_mem x k))
      have mS : bq_mu (bq_C w q g x n d (bq_mem x k)) (bq_ask w q g x n d k) (fun f => k.testBit (6 + f)) (j + 1) = (if bq_mu (bq_C w q g x n d (bq_mem x k)) (bq_ask w q g x n d k) (fun f => k.testBit (6 + f)) j ≤ bq_ask w q g x n d k j then bq_mu (bq_C w q g x n d (bq_mem x k)) (bq_ask w q g x n d k) (fun f => k.testBit (6 + f)) j else bq_ask w q g x n d k j) :=
        if_neg (fun z => absurd (z.symm.trans ha) (by decide))
      refine br_c (fun h => ⟨vk, vk, nm_e (nm_r (nI_1 j) (ih (j + 1) _ (by omega) ⟨fun c hc hne ok => ?_, fun ok => ?_⟩))⟩) (fun h => ⟨vk, nm_e (nm_r (nI_1 j) (ih (j + 1) _ (by omega) ⟨fun c hc hne ok => ?_, fun ok => ?_⟩))⟩)
      · rw [pk_un hne]; exact hI.1 c hc hne ok
      · rw [pk_us, mS]
        rw [hI.2 ok, hr ok, nI_leI (by omega) (by omega)] at h
        rw [if_pos h]; exact hI.2 ok
      · rw [pk_un hne]; exact hI.1 c hc hne ok
      · rw [pk_us, mS]
        rw [hI.2 ok, hr ok, nI_leI (by omega) (by omega)] at h
        rw [if_neg h]; exact hr ok
theorem bx_aod2 (w q : Nat) (hw : w ≤ 100) (hq : q ≤ 20) (g : Nat → Bool) (x : Nat → Nat) (hx : ∀ i, x i < 64) (n : Nat) (hn : n ≤ 48) (d : Nat)
    (post : SX → Prop) (fs : Int32) (a1 a2 G B : Nat → Int32)
    (H : ∀ L', (∀ c, c < 4096 → bq_ok c → L' c = nI (bq_C w q g x n (d + 1) (bq_mem x c))) → post (fs, a1, a2, G, B, L')) :
    ∀ e k L, k + e = 4096 → (∀ c, c < 4096 → bq_ok c → L c = nI (if c < k then bq_C w q g x n (d + 1) (bq_mem x c) else bq_C w q g x n d (bq_mem x c))) → wX_allowOneDeeper_2 post (nI q) fs (e + 1) (nI k) a1 a2 G B L := by
  intro e
  induction e with
  | zero =>
    intro k L hk hO
    have hk' : k = 4096 := by omega
    subst hk'
    refine br_t bx_4l (H L (fun c hc ok => ?_))
    rw [hO c hc ok, if_pos hc]
  | succ e ih =>
    intro k L hk hO
    have hk' : k < 4096 := by omega
    refine br_f (bx_4g hk') ⟨6 + 1, bx_ask w q hw hq g x n hn d k hk' post _ fs a1 a2 G B ?_ 6 0 L rfl ⟨fun c hc _ ok => hO c hc ok, fun ok => ?_⟩⟩
    · intro L' hI
      refine ih (k + 1) L' (by omega) (fun c hc ok => ?_)
      by_cases e1 : c = k
      · subst e1
        rw [hI.2 ok, bq_next hx ok, if_pos (by omega)]
      · rw [hI.1 c hc e1 ok]
        by_cases h : c < k
        · rw [if_pos h, if_pos (by omega)]
        · rw [if_neg h, if_neg (by omega)]
    · rw [hO k hk' ok, if_neg (Nat.lt_irrefl k)]
      rfl
theorem bx_aod (w q : Nat) (hw : w ≤ 100) (hq : q ≤ 20) (g : Nat → Bool) (x : Nat → Nat) (hx : ∀ i, x i < 64) (n : Nat) (hn : n ≤ 48) (d : Nat)
    (post : SX → Prop) (fs : Int32) (a1 a2 G B L : Nat → Int32) (hL : ∀ c, c < 4096 → bq_ok c → L c = nI (bq_C w q g x n d (bq_mem x c)))
    (H : ∀ L', (∀ c, c < 4096 → bq_ok c → L' c = nI (bq_C w q g x n (d + 1) (bq_mem x c))) → post (fs, a1, a2, G, B, L')) :
    wpX_allowOneDeeper post (fs, a1, a2, G, B, L) (nI q) :=
  ⟨_, bx_aod2 w q hw hq g x hx n hn d post fs a1 a2 G B H 4096 0 L rfl (fun c hc ok => by rw [hL c hc ok, if_neg (Nat.not_lt_zero c)])⟩
theorem bx_67 (w q : Nat) (hw : w ≤ 100) (hq : q ≤ 20) (g : Nat → Bool) (x : Nat → Nat) (hx : ∀ i, x i < 64) (n : Nat) (hn : n ≤ 48) (d : Nat) (hd : d ≤ 3)
    (post : SX → Prop) (fs : Int32) (a1 a2 G B : Nat → Int32)
    (H : ∀ L', (∀ c, c < 4096 → bq_ok c → L' c = nI (bq_C w q g x n d (bq_mem x c))) → post (fs, a1, a2, G, B, L')) :
    ∀ e j L, j + e = d → (∀ c, c < 4096 → bq_ok c → L c = nI (bq_C w q g x n j (bq_mem x c))) → wX_findLeastCosts_67 post (nI d) (nI q) (e + 1) (nI (j + 1)) fs a1 a2 G B L := by
  intro e
  induction e with
  | zero =>
    intro j L hj hL
    have hj' : j = d := by omega
    subst hj'
    exact br_t (nI_lt (by omega) (by omega)) (H L hL)
  | succ e ih =>
    intro j L hj hL
    refine br_f (nI_nlt (by omega) (by omega)) ?_
    refine bx_aod w q hw hq g x hx n hn j _ fs a1 a2 G B L hL (fun L' hL' => ?_)
    exact nm_r (nI_1 (j + 1)) (ih (j + 1) L' (by omega) hL')
theorem bx_flc3 (w q : Nat) (hw : w ≤ 100) (hq : q ≤ 20) (g : Nat → Bool) (x : Nat → Nat) (hx : ∀ i, x i < 64) (n : Nat) (hn : n ≤ 48) (d : Nat) (hd : d ≤ 3)
    (post : SX → Prop) (fs : Int32) (a1 a2 G B : Nat → Int32)
    (hG : ∀ c, c < 4096 → G c = nI (bq_cnt (fun i => bq_mem x c i && g i) n)) (hB : ∀ c, c < 4096 → B c = nI (bq_cnt (fun i => bq_mem x c i && !g i) n))
    (H : ∀ L', (∀ c, c < 4096 → bq_ok c → L' c = nI (bq_C w q g x n d (bq_mem x c))) → post (fs, a1, a2, G, B, L')) :
    ∀ e k L, k + e = 4096 → (∀ c, c < k → L c = nI (bq_leaf w g n (bq_mem x c))) → wX_findLeastCosts_3 post (nI d) (nI w) (nI q) fs (e + 1) (nI k) a1 a2 G B L := by
  intro e
  induction e with
  | zero =>
    intro k L hk hL
    have hk' : k = 4096 := by omega
    subst hk'
    exact br_t bx_4l ⟨_, bx_67 w q hw hq g x hx n hn d hd post fs a1 a2 G B H d 0 L (by omega) (fun c hc _ => hL c hc)⟩
  | succ e ih =>
    intro k L hk hL
    have hk' : k < 4096 := by omega
    have v : vp_in (nI k) 4096 := vp_in_nI hk' (by omega)
    have l1 := bq_cnt_le (fun i => bq_mem x k i && g i) n
    have l2 := bq_cnt_le (fun i => bq_mem x k i && !g i) n
    refine br_f (bx_4g hk') ⟨v, v, ?_⟩
    unfold wX_findLeastCosts_45
    rw [nI_clamp (show k < 2 ^ 31 by omega)]
    have step : ∀ z : Int32, z * nI w = nI (bq_leaf w g n (bq_mem x k)) → ∀ c, c < k + 1 → upd L k (z * nI w) c = nI (bq_leaf w g n (bq_mem x c)) := by
      intro z hz c hc
      by_cases e1 : c = k
      · subst e1; rw [pk_us]; exact hz
      · rw [pk_un e1]; exact hL c (by omega)
    refine pk_le _ _ (fun h => ⟨v, v, nm_e (nm_r (nI_1 k) (ih (k + 1) _ (by omega) (step _ ?_)))⟩) (fun h => ⟨v, v, nm_e (nm_r (nI_1 k) (ih (k + 1) _ (by omega) (step _ ?_)))⟩) (hB k hk') (hG k hk') (by omega) (by omega)
    · rw [hB k hk', pk_mul, Nat.mul_comm]
      exact congrArg nI (if_pos h).symm
    · rw [hG k hk', pk_mul, Nat.mul_comm]
      exact congrArg nI (if_neg (by omega)).symm
theorem bx_flc (w q : Nat) (hw : w ≤ 100) (hq : q ≤ 20) (g : Nat → Bool) (x : Nat → Nat) (hx : ∀ i, x i < 64) (n : Nat) (hn : n ≤ 48) (d : Nat) (hd : d ≤ 3)
    (post : SX → Prop) (fs : Int32) (a1 a2 G B L : Nat → Int32)
    (hG : ∀ c, c < 4096 → G c = nI (bq_cnt (fun i => bq_mem x c i && g i) n)) (hB : ∀ c, c < 4096 → B c = nI (bq_cnt (fun i => bq_mem x c i && !g i) n))
    (H : ∀ L', (∀ c, c < 4096 → bq_ok c → L' c = nI (bq_C w q g x n d (bq_mem x c))) → post (fs, a1, a2, G, B, L')) :
    wpX_findLeastCosts post (fs, a1, a2, G, B, L) (nI d) (nI w) (nI q) :=
  ⟨_, bx_flc3 w q hw hq g x hx n hn d hd post fs a1 a2 G B hG hB H 4096 0 L rfl (fun c hc => absurd hc (Nat.not_lt_zero c))⟩
end
section
/-! the class's walks, part two -/
theorem bx_near (v : Int32) (lo hi : Nat) (hl : lo ≤ hi) (hh : hi < 2 ^ 31) : ∃ d, lo ≤ d ∧ d ≤ hi ∧ (∀ post : Int32 → Prop, post (nI d) → wpX_nearest post v (nI lo) (nI hi)) ∧ (∀ post : Int32 → Prop, post (nI d) → wpY_within post v (nI lo) (nI hi)) := by
  by_cases h : nI lo ≤ v
  · have h0 : ¬ v < 0 := by
      have z : (0 : Int32) ≤ nI lo := nI_pos' (by omega)
      exact Int32.not_lt.mpr (Int32.le_trans z h)
    obtain ⟨j, hj, rfl⟩ := nI_of h0
    have hlj := (nI_leI (by omega) hj).1 h
    by_cases h2 : nI j ≤ nI hi
    · exact ⟨j, hlj, (nI_leI hj hh).1 h2, fun _ hp => br_t h (br_t h2 hp), fun _ hp => br_t h (br_t h2 hp)⟩
    · exact ⟨hi, hl, Nat.le_refl _, fun _ hp => br_t h (br_f h2 hp), fun _ hp => br_t h (br_f h2 hp)⟩
  · exact ⟨lo, Nat.le_refl _, hl, fun _ hp => br_f h hp, fun _ hp => br_f h hp⟩
theorem bx_mT (x : Nat → Nat) : ∀ i, bq_mem x 0 i = bq_T i := fun i => bq_mem0 x i
theorem bx_c0 {w q : Nat} {g : Nat → Bool} {x : Nat → Nat} {n d : Nat} {L : Nat → Int32} (hL : ∀ c, c < 4096 → bq_ok c → L c = nI (bq_C w q g x n d (bq_mem x c))) : L 0 = nI (bq_C w q g x n d bq_T) := by
  rw [hL 0 (by omega) bq_ok0, bq_C_ext d (bq_mem x 0) bq_T (fun i _ => bx_mT x i)]
theorem bx_coa0 {post : Int32 → Prop} {fs : Int32} {a1 a2 G B L : Nat → Int32} {w q : Nat} {g : Nat → Bool} {x : Nat → Nat} (hx : ∀ i, x i < 64) {n d f : Nat} (hf : f < 6)
    (hL : ∀ c, c < 4096 → bq_ok c → L c = nI (bq_C w q g x n d (bq_mem x c))) (h : post (nI (bq_opt w q g x n d bq_T f))) : wpX_costOfAsking post (fs, a1, a2, G, B, L) 0 (nI f) (nI q) := by
  have hz : (0 : Nat).testBit (6 + f) = false := Nat.zero_testBit _
  refine bx_coa (c := 0) (by omega) hf ?_
  rw [hL _ (bq_no_lt (by omega) hf) (bq_ok_no bq_ok0 hf), hL _ (bq_ye_lt (by omega) hf) (bq_ok_ye bq_ok0 hf), nI_add, nI_add, bq_askN hx bq_ok0 hf hz, bq_opt_ext (fun i _ => bx_mT x i) f]
  exact h
theorem bx_question_42 (n : Nat) (hn : n ≤ 48) (w q : Nat) (hw : w ≤ 100) (hq : q ≤ 20) (g : Nat → Bool) (x : Nat → Nat) (hx : ∀ i, x i < 64) (d : Nat)
    (post : Int32 → SX → Prop) (fs : Int32) (a1 a2 G B L : Nat → Int32) (hL : ∀ c, c < 4096 → bq_ok c → L c = nI (bq_C w q g x n d (bq_mem x c)))
    (H : post (nI (bq_arg (bq_opt w q g x n d bq_T) 5)) (fs, a1, a2, G, B, L)) :
    ∀ e k, k + e = 5 → wX_question_42 post (nI q) fs a1 a2 G B L (e + 1) (nI (bq_arg (bq_opt w q g x n d bq_T) k)) (nI (bq_opt w q g x n d bq_T (bq_arg (bq_opt w q g x n d bq_T) k))) (nI (k + 1)) := by
  intro e
  induction e with
  | zero =>
    intro k hk
    have hk' : k = 5 := by omega
    subst hk'
    exact br_t bs_6l H
  | succ e ih =>
    intro k hk
    have J := ih (k + 1) (by omega)
    refine br_f (bs_6g (by omega)) ?_
    refine bx_coa0 hx (by omega) hL ?_
    have b1 := by_opt_le n hn w q hw hq g x d bq_T (k + 1)
    have b2 := by_opt_le n hn w q hw hq g x d bq_T (bq_arg (bq_opt w q g x n d bq_T) k)
    refine pk_le _ _ (fun h => nm_r (nI_1 (k + 1)) ?_) (fun h => nm_r (nI_1 (k + 1)) ?_) rfl rfl (by omega) (by omega)
    · have e3 : bq_arg (bq_opt w q g x n d bq_T) (k + 1) = bq_arg (bq_opt w q g x n d bq_T) k := if_pos h
      rw [e3] at J; exact J
    · have e3 : bq_arg (bq_opt w q g x n d bq_T) (k + 1) = k + 1 := if_neg (by omega)
      rw [e3] at J; exact J
/-! doubtful -/
def bx_gc (x : Nat → Nat) (g : Nat → Bool) (n v : Nat) : Nat := bq_cnt (fun i => bq_mem x (63 * 64 + (v &&& 63)) i && g i) n
def bx_bc (x : Nat → Nat) (g : Nat → Bool) (n v : Nat) : Nat := bq_cnt (fun i => bq_mem x (63 * 64 + (v &&& 63)) i && !g i) n
def bx_t (x : Nat → Nat) (g : Nat → Bool) (n v : Nat) : Nat := if bx_gc x g n v ≤ 0 then 0 else if bx_bc x g n v ≤ 0 then 0 else bx_gc x g n v + bx_bc x g n v
theorem bx_tS (x : Nat → Nat) (g : Nat → Bool) (n k : Nat) : bq_sum (bx_t x g n) (k + 1) = bq_sum (bx_t x g n) k + bx_t x g n k := rfl
theorem bx_doubtful_4 (n : Nat) (hn : n ≤ 48) (g : Nat → Bool) (x : Nat → Nat)
    (post : Int32 → Prop) (fs : Int32) (a1 a2 G B L : Nat → Int32)
    (hG : ∀ c, c < 4096 → G c = nI (bq_cnt (fun i => bq_mem x c i && g i) n)) (hB : ∀ c, c < 4096 → B c = nI (bq_cnt (fun i => bq_mem x c i && !g i) n))
    (H : post (nI (bq_sum (bx_t x g n) 64))) :
    ∀ e k, k + e = 64 → wX_doubtful_4 post fs a1 a2 G B L (e + 1) (nI (bq_sum (bx_t x g n) k)) (nI k) := by
  intro e
  induction e with
  | zero =>
    intro k hk
    have hk' : k = 64 := by omega
    subst hk'
    exact br_t bx_64l H
  | succ e ih =>
    intro k hk
    have J := ih (k + 1) (by omega)
    have hy : k &&& 63 < 64 := bs_andlt (by decide)
    have v : vp_in (nI (63 * 64 + (k &&& 63))) 4096 := vp_in_nI (by omega) (by omega)
    have l1 : bx_gc x g n k ≤ n := bq_cnt_le _ n
    have l2 : bx_bc x g n k ≤ n := bq_cnt_le _ n
    have h1 : G (63 * 64 + (k &&& 63)) = nI (bx_gc x g n k) := hG _ (by omega)
    have h2 : B (63 * 64 + (k &&& 63)) = nI (bx_bc x g n k) := hB _ (by omega)
    rw [bx_tS] at J
    refine br_f (bx_64g (by omega)) (bx_cell (k := 63) (by decide) ⟨v, ?_⟩)
    rw [nI_clamp (show 63 * 64 + (k &&& 63) < 2 ^ 31 by omega), h1, h2]
    refine pk_le _ 0 (fun h => nm_r (nI_1 k) ?_) (fun h => ⟨v, ?_⟩) rfl rfl (by omega) (by omega)
    · rw [show bx_t x g n k = 0 from if_pos h] at J; exact J
    · refine pk_le _ 0 (fun h' => nm_r (nI_1 k) ?_) (fun h' => ⟨v, v, nm_r ?_ (nm_r (nI_1 k) J)⟩) rfl rfl (by omega) (by omega)
      · rw [show bx_t x g n k = 0 from (if_neg (by omega)).trans (if_pos h')] at J; exact J
      · rw [show bx_t x g n k = bx_gc x g n k + bx_bc x g n k from (if_neg (by omega)).trans (if_neg (by omega)), nI_add, nI_add]
theorem bx_and63 {v : Nat} (hv : v < 64) : v &&& 63 = v := by
  have h := Nat.and_two_pow_sub_one_eq_mod v 6
  rw [show (63 : Nat) = 2 ^ 6 - 1 from rfl, h]
  exact Nat.mod_eq_of_lt hv
theorem bx_mem63 {x : Nat → Nat} (hx : ∀ i, x i < 64) {v i : Nat} (hv : v < 64) : bq_mem x (63 * 64 + (v &&& 63)) i = decide (x i = v) := by
  show decide ((x i &&& ((63 * 64 + (v &&& 63)) / 64)) = (63 * 64 + (v &&& 63)) % 64) = _
  rw [bx_and63 hv, show (63 * 64 + v) / 64 = 63 by omega, show (63 * 64 + v) % 64 = v by omega, bx_and63 (hx i)]
theorem bx_sumw {x : Nat → Nat} (hx : ∀ i, x i < 64) {G : Nat → Int32} (h01 : ∀ i, G i = 0 ∨ G i = 1) (n : Nat) : bq_sum (bx_t x (bs_g G) n) 64 = bq_cnt (bq_w G x n) n := by
  have gc : ∀ v, v < 64 → (0 < bx_gc x (bs_g G) n v ↔ ∃ j, j < n ∧ x j = v ∧ ¬ G j = 0) := by
    intro v hv
    unfold bx_gc
    rw [bq_cnt_pos]
    constructor
    · intro ⟨j, hj, h⟩
      rw [bx_mem63 hx hv, Bool.and_eq_true, decide_eq_true_iff] at h
      exact ⟨j, hj, h.1, of_decide_eq_true h.2⟩
    · intro ⟨j, hj, h1, h2⟩
      refine ⟨j, hj, ?_⟩
      rw [bx_mem63 hx hv, Bool.and_eq_true, decide_eq_true_iff]
      exact ⟨h1, decide_eq_true h2⟩
  have bc : ∀ v, v < 64 → (0 < bx_bc x (bs_g G) n v ↔ ∃ j, j < n ∧ x j = v ∧ G j = 0) := by
    intro v hv
    unfold bx_bc
    rw [bq_cnt_pos]
    constructor
    · intro ⟨j, hj, h⟩
      rw [bx_mem63 hx hv, Bool.and_eq_true, decide_eq_true_iff] at h
      refine ⟨j, hj, h.1, ?_⟩
      by_cases z : G j = 0
      · exact z
      · rw [bs_g1 z] at h; exact absurd h.2 (by decide)
    · intro ⟨j, hj, h1, h2⟩
      refine ⟨j, hj, ?_⟩
      rw [bx_mem63 hx hv, Bool.and_eq_true, decide_eq_true_iff]
      exact ⟨h1, by rw [bs_g0 h2]; rfl⟩
  have e1 := bq_dsum (fun v => decide (0 < bx_gc x (bs_g G) n v) && decide (0 < bx_bc x (bs_g G) n v)) x 64 hx n
  refine Eq.trans (bq_sum_ext 64 (fun v hv => ?_)) (e1.trans (bq_cnt_ext n (fun i hi => ?_)))
  · have s := bq_cnt_split (bq_mem x (63 * 64 + (v &&& 63))) (bs_g G) n
    have s2 : bx_gc x (bs_g G) n v + bx_bc x (bs_g G) n v = bq_cnt (fun i => decide (x i = v)) n :=
      s.trans (bq_cnt_ext n (fun i _ => bx_mem63 hx hv))
    show (if bx_gc x (bs_g G) n v ≤ 0 then 0 else if bx_bc x (bs_g G) n v ≤ 0 then 0 else bx_gc x (bs_g G) n v + bx_bc x (bs_g G) n v) = (if (decide (0 < bx_gc x (bs_g G) n v) && decide (0 < bx_bc x (bs_g G) n v)) = true then bq_cnt (fun i => decide (x i = v)) n else 0)
    rw [s2]
    by_cases a : bx_gc x (bs_g G) n v ≤ 0
    · rw [if_pos a, decide_eq_false (show ¬ 0 < bx_gc x (bs_g G) n v by omega)]; rfl
    · by_cases b : bx_bc x (bs_g G) n v ≤ 0
      · rw [if_neg a, if_pos b, decide_eq_false (show ¬ 0 < bx_bc x (bs_g G) n v by omega), Bool.and_false]; rfl
      · rw [if_neg a, if_neg b, decide_eq_true (show 0 < bx_gc x (bs_g G) n v by omega), decide_eq_true (show 0 < bx_bc x (bs_g G) n v by omega)]; rfl
  · show (decide (0 < bx_gc x (bs_g G) n (x i)) && decide (0 < bx_bc x (bs_g G) n (x i))) = decide (0 < bq_cnt (bq_f G x i) n)
    rw [Bool.eq_iff_iff, Bool.and_eq_true, decide_eq_true_iff, decide_eq_true_iff, decide_eq_true_iff, gc _ (hx i), bc _ (hx i), bq_cnt_pos]
    constructor
    · intro ⟨⟨j, hj, j1, j2⟩, ⟨l, hl, l1, l2⟩⟩
      by_cases z : G i = 0
      · refine ⟨j, hj, ?_⟩
        show (decide (x i = x j) && decide (¬ G i = G j)) = true
        rw [Bool.and_eq_true, decide_eq_true_iff, decide_eq_true_iff]
        exact ⟨j1.symm, fun y => j2 (y.symm.trans z)⟩
      · refine ⟨l, hl, ?_⟩
        show (decide (x i = x l) && decide (¬ G i = G l)) = true
        rw [Bool.and_eq_true, decide_eq_true_iff, decide_eq_true_iff]
        exact ⟨l1.symm, fun y => z (y.trans l2)⟩
    · intro ⟨j, hj, h⟩
      have h' : (decide (x i = x j) && decide (¬ G i = G j)) = true := h
      rw [Bool.and_eq_true, decide_eq_true_iff, decide_eq_true_iff] at h'
      by_cases z : G i = 0
      · exact ⟨⟨j, hj, h'.1.symm, fun y => h'.2 (z.trans y.symm)⟩, ⟨i, hi, rfl, z⟩⟩
      · have zi : G i = 1 := (h01 i).resolve_left z
        have zj : G j = 0 := (h01 j).resolve_right (fun y => h'.2 (zi.trans y.symm))
        exact ⟨⟨i, hi, rfl, z⟩, ⟨j, hj, h'.1.symm, zj⟩⟩
/-! drop: the shift -/
def bx_sh {α : Type} (a : Nat → α) (m k : Nat) : Nat → α := fun i => if m ≤ i ∧ i < k then a (i + 1) else a i
theorem bx_sh0 {α : Type} (a : Nat → α) (m : Nat) : bx_sh a m m = a := by
  funext i
  exact if_neg (by omega)
theorem bx_shS (a : Nat → Int32) {m k : Nat} (h : m ≤ k) : upd (bx_sh a m k) k (bx_sh a m k (k + 1)) = bx_sh a m (k + 1) := by
  funext i
  by_cases e : i = k
  · subst e
    rw [pk_us]
    show (if m ≤ i + 1 ∧ i + 1 < i then a (i + 1 + 1) else a (i + 1)) = (if m ≤ i ∧ i < i + 1 then a (i + 1) else a i)
    rw [if_neg (by omega), if_pos (by omega)]
  · rw [pk_un e]
    show (if m ≤ i ∧ i < k then a (i + 1) else a i) = (if m ≤ i ∧ i < k + 1 then a (i + 1) else a i)
    by_cases c : m ≤ i ∧ i < k
    · rw [if_pos c, if_pos (by omega)]
    · rw [if_neg c, if_neg (by omega)]
theorem bx_sh01 {a : Nat → Int32} (h : ∀ i, a i = 0 ∨ a i = 1) (m k : Nat) : ∀ i, bx_sh a m k i = 0 ∨ bx_sh a m k i = 1 := by
  intro i
  show (if m ≤ i ∧ i < k then a (i + 1) else a i) = 0 ∨ (if m ≤ i ∧ i < k then a (i + 1) else a i) = 1
  split
  · exact h _
  · exact h _
theorem bx_drop_43 (post : Int32 → SX → Prop) (F D G B L : Nat → Int32) (h01 : ∀ i, D i = 0 ∨ D i = 1) (m n : Nat) (hn : n < 48)
    (H : post (nI n) (nI n, bx_sh F m n, bx_sh D m n, G, B, L)) :
    ∀ e k, k + e = n → m ≤ k → wX_drop_43 post (nI n) (e + 1) (nI k) (bx_sh F m k) (bx_sh D m k) G B L := by
  intro e
  induction e with
  | zero =>
    intro k hk _
    have hk' : k = n := by omega
    subst hk'
    exact br_t (nI_le (Nat.le_refl _) (by omega)) H
  | succ e ih =>
    intro k hk hm
    have v1 : vp_in (nI k + 1) 48 := by rw [nI_1]; exact vp_in_nI (by omega) (by omega)
    have v2 : vp_in (nI k) 48 := vp_in_nI (by omega) (by omega)
    refine br_f (nI_ge (by omega) (by omega)) ⟨v1, v2, nm_r ?_ ⟨v1, v2, nm_r ?_ (nm_r (nI_1 k) (ih (k + 1) (by omega) (by omega)))⟩⟩
    · rw [nI_1, nI_clamp (by omega), nI_clamp (by omega)]; exact bx_shS F hm
    · rw [nI_1, nI_clamp (by omega), nI_clamp (by omega), bs_nar (bx_sh01 h01 m k _)]; exact bx_shS D hm
theorem by_drop_26 (post : Int32 → SY → Prop) (F D : Nat → Int32) (M A : Int32) (h01 : ∀ i, D i = 0 ∨ D i = 1) (m n : Nat) (hn : n < 48)
    (H : post (nI n) (nI n, M, A, bx_sh F m n, bx_sh D m n)) :
    ∀ e k, k + e = n → m ≤ k → wY_drop_26 post (nI n) M A (e + 1) (nI k) (bx_sh F m k) (bx_sh D m k) := by
  intro e
  induction e with
  | zero =>
    intro k hk _
    have hk' : k = n := by omega
    subst hk'
    exact br_t (nI_le (Nat.le_refl _) (by omega)) H
  | succ e ih =>
    intro k hk hm
    have v1 : vp_in (nI k + 1) 48 := by rw [nI_1]; exact vp_in_nI (by omega) (by omega)
    have v2 : vp_in (nI k) 48 := vp_in_nI (by omega) (by omega)
    refine br_f (nI_ge (by omega) (by omega)) ⟨v1, v2, nm_r ?_ ⟨v1, v2, nm_r ?_ (nm_r (nI_1 k) (ih (k + 1) (by omega) (by omega)))⟩⟩
    · rw [nI_1, nI_clamp (by omega), nI_clamp (by omega)]; exact bx_shS F hm
    · rw [nI_1, nI_clamp (by omega), nI_clamp (by omega), bs_nar (bx_sh01 h01 m k _)]; exact bx_shS D hm
end
section
/-! the relation and the counts under add and drop -/
def bx_St (n : Nat) (F D G B : Nat → Int32) (x : Nat → Nat) : Prop :=
  n ≤ 48 ∧ (∀ i, F i = nI (x i)) ∧ (∀ i, x i < 64) ∧ (∀ i, D i = 0 ∨ D i = 1) ∧
  (∀ c, c < 4096 → G c = nI (bq_cnt (fun i => bq_mem x c i && bs_g D i) n)) ∧ (∀ c, c < 4096 → B c = nI (bq_cnt (fun i => bq_mem x c i && !bs_g D i) n))
theorem bx_cd (x : Nat → Nat) (D : Nat → Int32) (hh : Int32 → Bool) (k m c : Nat) (hk : k ≤ m) :
    bq_cnt (fun i => bq_mem (bx_sh x k m) c i && hh (bx_sh D k m i)) m + (if (bq_mem x c k && hh (D k)) = true then 1 else 0) = bq_cnt (fun i => bq_mem x c i && hh (D i)) (m + 1) := by
  rw [← bq_cnt_shift (fun i => bq_mem x c i && hh (D i)) k m hk]
  congr 1
  apply bq_cnt_ext
  intro i hi
  show (decide ((bx_sh x k m i &&& (c / 64)) = c % 64) && hh (bx_sh D k m i)) = (if k ≤ i then (bq_mem x c (i + 1) && hh (D (i + 1))) else (bq_mem x c i && hh (D i)))
  by_cases h : k ≤ i
  · rw [if_pos h, show bx_sh x k m i = x (i + 1) from if_pos ⟨h, hi⟩, show bx_sh D k m i = D (i + 1) from if_pos ⟨h, hi⟩]; rfl
  · rw [if_neg h, show bx_sh x k m i = x i from if_neg (fun z => h z.1), show bx_sh D k m i = D i from if_neg (fun z => h z.1)]; rfl
def bx_up (x : Nat → Nat) (n y : Nat) : Nat → Nat := fun i => if i = n then y else x i
theorem bx_ca (x : Nat → Nat) (D : Nat → Int32) (hh : Int32 → Bool) (n y : Nat) (b : Int32) (c : Nat) :
    bq_cnt (fun i => bq_mem (bx_up x n y) c i && hh (upd D n b i)) (n + 1) = bq_cnt (fun i => bq_mem x c i && hh (D i)) n + (if (decide ((y &&& (c / 64)) = c % 64) && hh b) = true then 1 else 0) := by
  show bq_cnt (fun i => bq_mem (bx_up x n y) c i && hh (upd D n b i)) n + (if (decide ((bx_up x n y n &&& (c / 64)) = c % 64) && hh (upd D n b n)) = true then 1 else 0) = _
  rw [pk_us, show bx_up x n y n = y from if_pos rfl]
  congr 1
  apply bq_cnt_ext
  intro i hi
  show (decide ((bx_up x n y i &&& (c / 64)) = c % 64) && hh (upd D n b i)) = _
  rw [pk_un (by omega), show bx_up x n y i = x i from if_neg (by omega)]; rfl
theorem bx_selc (a : Nat → Int32) (y : Nat) (ch : Int32) (b : Prop) [Decidable b] {c : Nat} (hc : c < 4096) : bx_sel a y ch b c = (if (decide ((y &&& (c / 64)) = c % 64) && decide b) = true then a c + ch else a c) := by
  unfold bx_sel
  by_cases h : b
  · rw [if_pos h, decide_eq_true h, Bool.and_true]
    show (if c / 64 < 64 ∧ (y &&& (c / 64)) = c % 64 then a c + ch else a c) = _
    by_cases h2 : (y &&& (c / 64)) = c % 64
    · rw [if_pos ⟨by omega, h2⟩, if_pos (decide_eq_true h2)]
    · rw [if_neg (fun z => h2 z.2), if_neg (fun z => h2 (of_decide_eq_true z))]
  · rw [if_neg h, decide_eq_false h, Bool.and_false]; rfl
theorem bx_St_add {n : Nat} {F D G B : Nat → Int32} {x : Nat → Nat} (S : bx_St n F D G B x) (hn : n < 48) {y : Nat} (hy : y < 64) {b : Int32} (hb : b = 0 ∨ b = 1) :
    bx_St (n + 1) (upd F n (nI y)) (upd D n b) (bx_sel G y 1 (¬ b = 0)) (bx_sel B y 1 (b = 0)) (bx_up x n y) := by
  obtain ⟨_, hF, hx, h01, hG, hB⟩ := S
  refine ⟨by omega, fun i => ?_, fun i => ?_, fun i => ?_, fun c hc => ?_, fun c hc => ?_⟩
  · by_cases e : i = n
    · subst e; rw [pk_us, show bx_up x i y i = y from if_pos rfl]
    · rw [pk_un e, show bx_up x n y i = x i from if_neg e]; exact hF i
  · show (if i = n then y else x i) < 64
    split
    · exact hy
    · exact hx i
  · by_cases e : i = n
    · subst e; rw [pk_us]; exact hb
    · rw [pk_un e]; exact h01 i
  · have e1 := bx_ca x D (fun z => decide (¬ z = 0)) n y b c
    rw [bx_selc G y 1 (¬ b = 0) hc, hG c hc]
    refine Eq.trans ?_ (congrArg nI e1).symm
    by_cases h : (decide ((y &&& (c / 64)) = c % 64) && decide (¬ b = 0)) = true
    · rw [if_pos h, if_pos h]; exact nI_1 _
    · rw [if_neg h, if_neg h]; rfl
  · have e1 := bx_ca x D (fun z => !decide (¬ z = 0)) n y b c
    have e2 : (!decide (¬ b = 0)) = decide (b = 0) := by
      by_cases z : b = 0
      · rw [decide_eq_true z, decide_eq_false (fun w : ¬ b = 0 => w z)]; rfl
      · rw [decide_eq_false z, decide_eq_true z]; rfl
    rw [e2] at e1
    rw [bx_selc B y 1 (b = 0) hc, hB c hc]
    refine Eq.trans ?_ (congrArg nI e1).symm
    by_cases h : (decide ((y &&& (c / 64)) = c % 64) && decide (b = 0)) = true
    · rw [if_pos h, if_pos h]; exact nI_1 _
    · rw [if_neg h, if_neg h]; rfl
theorem bx_St_drop {m : Nat} {F D G B : Nat → Int32} {x : Nat → Nat} (S : bx_St (m + 1) F D G B x) {k : Nat} (hk : k ≤ m) :
    bx_St m (bx_sh F k m) (bx_sh D k m) (bx_sel G (x k) (-1) (¬ D k = 0)) (bx_sel B (x k) (-1) (D k = 0)) (bx_sh x k m) := by
  obtain ⟨hn, hF, hx, h01, hG, hB⟩ := S
  refine ⟨by omega, fun i => ?_, fun i => ?_, bx_sh01 h01 k m, fun c hc => ?_, fun c hc => ?_⟩
  · by_cases h : k ≤ i ∧ i < m
    · rw [show bx_sh F k m i = F (i + 1) from if_pos h, show bx_sh x k m i = x (i + 1) from if_pos h]; exact hF _
    · rw [show bx_sh F k m i = F i from if_neg h, show bx_sh x k m i = x i from if_neg h]; exact hF _
  · show (if k ≤ i ∧ i < m then x (i + 1) else x i) < 64
    split
    · exact hx _
    · exact hx _
  · have e1 := bx_cd x D (fun z => decide (¬ z = 0)) k m c hk
    rw [bx_selc G (x k) (-1) (¬ D k = 0) hc, hG c hc]
    have e3 : bq_cnt (fun i => bq_mem x c i && bs_g D i) (m + 1) = _ := e1.symm
    rw [e3]
    by_cases h : (decide ((x k &&& (c / 64)) = c % 64) && decide (¬ D k = 0)) = true
    · have h' : (bq_mem x c k && decide (¬ D k = 0)) = true := h
      rw [if_pos h, if_pos h']; exact pk_m1 _
    · have h' : ¬ (bq_mem x c k && decide (¬ D k = 0)) = true := h
      rw [if_neg h, if_neg h']; rfl
  · have e1 := bx_cd x D (fun z => !decide (¬ z = 0)) k m c hk
    have e2 : (!decide (¬ D k = 0)) = decide (D k = 0) := by
      by_cases z : D k = 0
      · rw [decide_eq_true z, decide_eq_false (fun w : ¬ D k = 0 => w z)]; rfl
      · rw [decide_eq_false z, decide_eq_true z]; rfl
    rw [e2] at e1
    rw [bx_selc B (x k) (-1) (D k = 0) hc, hB c hc]
    have e3 : bq_cnt (fun i => bq_mem x c i && !bs_g D i) (m + 1) = _ := e1.symm
    rw [e3]
    by_cases h : (decide ((x k &&& (c / 64)) = c % 64) && decide (D k = 0)) = true
    · have h' : (bq_mem x c k && decide (D k = 0)) = true := h
      rw [if_pos h, if_pos h']; exact pk_m1 _
    · have h' : ¬ (bq_mem x c k && decide (D k = 0)) = true := h
      rw [if_neg h, if_neg h']; rfl
theorem bx_cnt0 (p : Nat → Bool) : bq_cnt p 0 = 0 := rfl
end
section
/-- both hold the same samples; the class's counts are those of the samples in each cell -/
def i_Rel (k : Nat) (u : SX) (v : SY) : Prop :=
  ∃ (n : Nat) (F D G B L : Nat → Int32) (M A : Int32) (x : Nat → Nat), u = (nI n, F, D, G, B, L) ∧ v = (nI n, M, A, F, D) ∧ bx_St n F D G B x
theorem i_up {k : Nat} {u : SX} {v : SY} (h : i_Rel k u v) : i_Rel (k + 3) u v := h
theorem i_vc0 : wpX_init (fun u => wpY_init (fun v => i_Rel 0 u v)) :=
  ⟨0, _, _, _, _, _, _, _, fun _ => 0, rfl, rfl, by omega, fun _ => rfl, fun _ => Nat.zero_lt_succ 63, fun _ => Or.inl rfl, fun _ _ => rfl, fun _ _ => rfl⟩
theorem i_vc_add {k : Nat} {u : SX} {v : SY} (I : i_Rel k u v) (hk : k + 3 ≤ 1536) (v1 : Int32) (v2 : Int32) : wpX_add (fun r u' => wpY_add (fun r' v' => r' = r ∧ i_Rel (k + 3) u' v') v v1 (lw_bz v2)) u v1 (lw_bz v2) := by
  obtain ⟨n, F, D, G, B, L, M, A, x, rfl, rfl, S⟩ := I
  have hn := S.1
  unfold wpX_add
  dsimp only
  have e48 : (48 : Int32) = nI 48 := rfl
  have hb := lw_bz_01 v2
  generalize lw_bz v2 = b at hb
  by_cases h : n < 48
  · have hi : vp_in (nI n) 48 := vp_in_nI h (by omega)
    have ey : v1 &&& 63 = nI (v1.toBitVec.toNat % 64) := pk_and v1 6 (by decide)
    have hy : v1.toBitVec.toNat % 64 < 64 := Nat.mod_lt _ (by decide)
    generalize v1.toBitVec.toNat % 64 = y at ey hy
    have eF : upd F (nI n).toNatClampNeg (nI y) = upd F n (nI y) := by rw [nI_clamp (by omega)]
    have eD : upd D (nI n).toNatClampNeg (vp_nar .boolean b) = upd D n b := by rw [nI_clamp (by omega), bs_nar hb]
    refine br_t (by rw [e48]; exact nI_lt h (by omega)) (nm_r ey ⟨hi, nm_r eF ⟨hi, nm_r eD (nm_r (nI_1 n) ?_)⟩⟩)
    refine bx_cic _ _ _ _ _ _ _ y b 1 ?_
    dsimp only
    unfold wpY_add
    dsimp only
    have hne : ¬ nI n = 48 := by rw [e48, nI_eq (by omega) (by omega)]; omega
    refine br_f hne ⟨hi, nm_r ((congrArg (upd F (nI n).toNatClampNeg) ey).trans eF) ⟨hi, nm_r eD (nm_r (nI_1 n) ?_)⟩⟩
    exact ⟨rfl, n + 1, _, _, _, _, L, M, A, _, rfl, rfl, bx_St_add S h hy hb⟩
  · have h48 : n = 48 := by omega
    subst h48
    refine br_f (by decide) ?_
    unfold wpY_add
    dsimp only
    exact br_t rfl ⟨rfl, 48, F, D, G, B, L, M, A, x, rfl, rfl, S⟩
theorem i_vc_drop {k : Nat} {u : SX} {v : SY} (I : i_Rel k u v) (hk : k + 3 ≤ 1536) (v1 : Int32) : wpX_drop (fun r u' => wpY_drop (fun r' v' => r' = r ∧ i_Rel (k + 3) u' v') v v1) u v1 := by
  obtain ⟨n, F, D, G, B, L, M, A, x, rfl, rfl, S⟩ := I
  have hn := S.1
  unfold wpX_drop
  dsimp only
  by_cases h0 : v1 < 0
  · refine br_t h0 ?_
    unfold wpY_drop
    dsimp only
    exact br_t h0 ⟨rfl, n, F, D, G, B, L, M, A, x, rfl, rfl, S⟩
  · by_cases h1 : v1 < nI n
    · obtain ⟨j, hj, rfl⟩ := nI_of h0
      have hjn := (nI_ltI hj (by omega)).1 h1
      obtain ⟨m, rfl⟩ : ∃ m, n = m + 1 := ⟨n - 1, by omega⟩
      have hi : vp_in (nI j) 48 := vp_in_nI (by omega) (by omega)
      refine br_f h0 (br_t h1 ⟨hi, hi, ?_⟩)
      rw [nI_clamp hj, S.2.1 j]
      refine bx_cic _ _ _ _ _ _ _ (x j) (D j) (-1) ?_
      dsimp only
      refine nm_r (nI_pred m) ?_
      have X := bx_drop_43 (fun r u' => wpY_drop (fun r' v' => r' = r ∧ i_Rel (k + 3) u' v') (nI (m + 1), M, A, F, D) (nI j)) F D (bx_sel G (x j) (-1) (¬ D j = 0)) (bx_sel B (x j) (-1) (D j = 0)) L S.2.2.2.1 j m (by omega) ?_ (m - j) j (by omega) (Nat.le_refl _)
      · rw [bx_sh0, bx_sh0] at X
        exact ⟨_, X⟩
      · unfold wpY_drop
        dsimp only
        refine br_f h0 (br_t h1 (nm_r (nI_pred m) ?_))
        have Y := by_drop_26 (fun r' v' => r' = nI m ∧ i_Rel (k + 3) (nI m, bx_sh F j m, bx_sh D j m, bx_sel G (x j) (-1) (¬ D j = 0), bx_sel B (x j) (-1) (D j = 0), L) v') F D M A S.2.2.2.1 j m (by omega) ⟨rfl, m, _, _, _, _, L, M, A, _, rfl, rfl, bx_St_drop S (by omega)⟩ (m - j) j (by omega) (Nat.le_refl _)
        rw [bx_sh0, bx_sh0] at Y
        exact ⟨_, Y⟩
    · refine br_f h0 (br_f h1 ?_)
      unfold wpY_drop
      dsimp only
      exact br_f h0 (br_f h1 ⟨rfl, n, F, D, G, B, L, M, A, x, rfl, rfl, S⟩)
theorem i_vc_mistakes {k : Nat} {u : SX} {v : SY} (I : i_Rel k u v) (hk : k + 3 ≤ 1536) (v1 : Int32) : wpX_mistakes (fun r u' => wpY_mistakes (fun r' v' => r' = r ∧ i_Rel (k + 3) u' v') v v1) u v1 := by
  obtain ⟨n, F, D, G, B, L, M, A, x, rfl, rfl, S⟩ := I
  have S' := S
  obtain ⟨hn, hF, hx, h01, hG, hB⟩ := S'
  obtain ⟨d, _, hd, nx, ny⟩ := bx_near v1 0 3 (by decide) (by decide)
  unfold wpX_mistakes
  dsimp only
  refine nx _ ?_
  refine bx_flc 1 0 (by decide) (by decide) (bs_g D) x hx n hn d hd _ (nI n) F D G B L hG hB (fun L' hL => ?_)
  dsimp only
  unfold wpY_mistakes
  dsimp only
  unfold wpY_weigh
  dsimp only
  refine ny _ ?_
  refine by_cheapest n hn 1 0 (by decide) (by decide) F D x hF hx _ d hd ?_
  exact ⟨(bx_c0 hL).symm, n, F, D, G, B, L', 1, 0, x, rfl, rfl, S⟩
theorem i_vc_price {k : Nat} {u : SX} {v : SY} (I : i_Rel k u v) (hk : k + 3 ≤ 1536) (v1 : Int32) (v2 : Int32) : wpX_price (fun r u' => wpY_price (fun r' v' => r' = r ∧ i_Rel (k + 3) u' v') v v1 v2) u v1 v2 := by
  obtain ⟨n, F, D, G, B, L, M, A, x, rfl, rfl, S⟩ := I
  have S' := S
  obtain ⟨hn, hF, hx, h01, hG, hB⟩ := S'
  obtain ⟨d, _, hd, nx, ny⟩ := bx_near v1 0 3 (by decide) (by decide)
  obtain ⟨q, _, hq, mx, my⟩ := bx_near v2 0 20 (by decide) (by decide)
  unfold wpX_price
  dsimp only
  refine nx _ ?_
  refine mx _ ?_
  refine bx_flc 1 q (by decide) hq (bs_g D) x hx n hn d hd _ (nI n) F D G B L hG hB (fun L' hL => ?_)
  dsimp only
  unfold wpY_price
  dsimp only
  refine my _ ?_
  unfold wpY_weigh
  dsimp only
  refine ny _ ?_
  refine by_cheapest n hn 1 q (by decide) hq F D x hF hx _ d hd ?_
  exact ⟨(bx_c0 hL).symm, n, F, D, G, B, L', 1, nI q, x, rfl, rfl, S⟩
theorem i_vc_question {k : Nat} {u : SX} {v : SY} (I : i_Rel k u v) (hk : k + 3 ≤ 1536) (v1 : Int32) (v2 : Int32) : wpX_question (fun r u' => wpY_question (fun r' v' => r' = r ∧ i_Rel (k + 3) u' v') v v1 v2) u v1 v2 := by
  obtain ⟨n, F, D, G, B, L, M, A, x, rfl, rfl, S⟩ := I
  have S' := S
  obtain ⟨hn, hF, hx, h01, hG, hB⟩ := S'
  obtain ⟨d1, hd1, hd, nx, ny⟩ := bx_near v1 1 3 (by decide) (by decide)
  obtain ⟨q, _, hq, mx, my⟩ := bx_near v2 0 20 (by decide) (by decide)
  obtain ⟨d, rfl⟩ : ∃ d, d1 = d + 1 := ⟨d1 - 1, by omega⟩
  unfold wpX_question
  dsimp only
  refine nx _ ?_
  refine mx _ ?_
  rw [nI_pred]
  refine bx_flc 1 q (by decide) hq (bs_g D) x hx n hn d (by omega) _ (nI n) F D G B L hG hB (fun L' hL => ?_)
  dsimp only
  refine bx_coa0 (f := 0) hx (by decide) hL ?_
  refine ⟨_, bx_question_42 n hn 1 q (by decide) hq (bs_g D) x hx d _ (nI n) F D G B L' hL ?_ 5 0 rfl⟩
  unfold wpY_question
  dsimp only
  refine my _ ?_
  unfold wpY_weigh
  dsimp only
  refine ny _ ?_
  refine ⟨_, by_question_28 n hn 1 q (by decide) hq F D x hF hx _ d (by omega) ?_ 5 0 rfl⟩
  exact ⟨rfl, n, F, D, G, B, L', 1, nI q, x, rfl, rfl, S⟩
theorem i_vc_leaves {k : Nat} {u : SX} {v : SY} (I : i_Rel k u v) (hk : k + 3 ≤ 1536) (v1 : Int32) : wpX_leaves (fun r u' => wpY_leaves (fun r' v' => r' = r ∧ i_Rel (k + 3) u' v') v v1) u v1 := by
  obtain ⟨n, F, D, G, B, L, M, A, x, rfl, rfl, S⟩ := I
  have S' := S
  obtain ⟨hn, hF, hx, h01, hG, hB⟩ := S'
  obtain ⟨d, _, hd, nx, ny⟩ := bx_near v1 0 3 (by decide) (by decide)
  unfold wpX_leaves
  dsimp only
  refine nx _ ?_
  refine bx_flc 8 1 (by decide) (by decide) (bs_g D) x hx n hn d hd _ (nI n) F D G B L hG hB (fun L' hL => ?_)
  dsimp only
  refine ⟨by decide, ?_⟩
  unfold wpY_leaves
  dsimp only
  unfold wpY_weigh
  dsimp only
  refine ny _ ?_
  refine by_cheapest n hn 100 1 (by decide) (by decide) F D x hF hx _ d hd ?_
  refine ⟨by decide, ?_, n, F, D, G, B, L', 100, 1, x, rfl, rfl, S⟩
  have b1 : bq_C 100 1 (bs_g D) x n d bq_T ≤ 4800 := Nat.le_trans (bq_C_le 100 1 (bs_g D) x n d bq_T) (Nat.mul_le_mul_left 100 hn)
  have b2 : bq_C 8 1 (bs_g D) x n d bq_T ≤ 384 := Nat.le_trans (bq_C_le 8 1 (bs_g D) x n d bq_T) (Nat.mul_le_mul_left 8 hn)
  obtain ⟨m, r, e1, e2, hr⟩ := bq_lex (bs_g D) x n d bq_T hd
  have hp : 2 ^ d ≤ 8 := Nat.pow_le_pow_right (n := 2) (by decide) hd
  rw [bx_c0 hL]
  have r1 := pk_rem (a := bq_C 100 1 (bs_g D) x n d bq_T) (d := 100) (by omega) (by decide) (by decide)
  have r2 := pk_rem (a := bq_C 8 1 (bs_g D) x n d bq_T) (d := 8) (by omega) (by decide) (by decide)
  have s1 : bq_C 100 1 (bs_g D) x n d bq_T % 100 = r := by rw [e1]; omega
  have s2 : bq_C 8 1 (bs_g D) x n d bq_T % 8 = r := by rw [e2]; omega
  rw [s1] at r1
  rw [s2] at r2
  exact congrArg (· + 1) (r1.trans r2.symm)
theorem i_vc_mistakesBy {k : Nat} {u : SX} {v : SY} (I : i_Rel k u v) (hk : k + 3 ≤ 1536) (v1 : Int32) (v2 : Int32) : wpX_mistakesBy (fun r u' => wpY_mistakesBy (fun r' v' => r' = r ∧ i_Rel (k + 3) u' v') v v1 v2) u v1 v2 := by
  obtain ⟨n, F, D, G, B, L, M, A, x, rfl, rfl, S⟩ := I
  have S' := S
  obtain ⟨hn, hF, hx, h01, hG, hB⟩ := S'
  obtain ⟨d1, hd1, hd, nx, ny⟩ := bx_near v1 1 3 (by decide) (by decide)
  obtain ⟨d, rfl⟩ : ∃ d, d1 = d + 1 := ⟨d1 - 1, by omega⟩
  unfold wpX_mistakesBy
  dsimp only
  have e6 : (6 : Int32) = nI 6 := rfl
  have e5 : (5 : Int32) = nI 5 := rfl
  by_cases h0 : v2 < 0
  · refine br_t h0 ?_
    unfold wpY_mistakesBy
    dsimp only
    exact br_t h0 ⟨rfl, n, F, D, G, B, L, M, A, x, rfl, rfl, S⟩
  · obtain ⟨f, hf, rfl⟩ := nI_of h0
    by_cases h6 : f < 6
    · refine br_f h0 (br_t (by rw [e6]; exact nI_lt h6 (by omega)) ?_)
      refine nx _ ?_
      rw [nI_pred]
      refine bx_flc 1 0 (by decide) (by decide) (bs_g D) x hx n hn d (by omega) _ (nI n) F D G B L hG hB (fun L' hL => ?_)
      dsimp only
      refine bx_coa0 (q := 0) hx h6 hL ?_
      unfold wpY_mistakesBy
      dsimp only
      refine br_f h0 (br_t (by rw [e5]; exact nI_le (by omega) (by omega)) ?_)
      unfold wpY_weigh
      dsimp only
      refine ny _ ?_
      refine by_by n hn 1 0 (by decide) (by decide) F D x hF hx _ d (by omega) f h6 ?_
      exact ⟨rfl, n, F, D, G, B, L', 1, 0, x, rfl, rfl, S⟩
    · refine br_f h0 (br_f (by rw [e6]; exact nI_nlt (by omega) hf) ?_)
      unfold wpY_mistakesBy
      dsimp only
      refine br_f h0 (br_f (by rw [e5, nI_leI hf (by omega)]; omega) ?_)
      exact ⟨rfl, n, F, D, G, B, L, M, A, x, rfl, rfl, S⟩
theorem i_vc_doubtful {k : Nat} {u : SX} {v : SY} (I : i_Rel k u v) (hk : k + 3 ≤ 1536) : wpX_doubtful (fun r => wpY_doubtful (fun r' => r' = r ∧ i_Rel (k + 3) u v) v) u := by
  have I' := I
  obtain ⟨n, F, D, G, B, L, M, A, x, rfl, rfl, S⟩ := I'
  obtain ⟨hn, hF, hx, h01, hG, hB⟩ := S
  refine ⟨_, bx_doubtful_4 n hn (bs_g D) x _ (nI n) F D G B L hG hB ?_ 64 0 rfl⟩
  refine by_doubtful n hn M A F D x hF hx _ ?_
  exact ⟨congrArg nI (bx_sumw hx h01 n).symm, I⟩
end
