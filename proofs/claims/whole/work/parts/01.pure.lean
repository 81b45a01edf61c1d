/-! counting, leaves, costs: plain naturals -/
def bq_cnt (p : Nat → Bool) : Nat → Nat
  | 0 => 0
  | n + 1 => bq_cnt p n + (if p n = true then 1 else 0)
theorem bq_cnt_le (p : Nat → Bool) : ∀ n, bq_cnt p n ≤ n := by
  intro n
  induction n with
  | zero => exact Nat.le_refl 0
  | succ n ih =>
    show bq_cnt p n + _ ≤ _
    split <;> omega
theorem bq_cnt_ext {p q : Nat → Bool} : ∀ n, (∀ i, i < n → p i = q i) → bq_cnt p n = bq_cnt q n := by
  intro n
  induction n with
  | zero => intro _; rfl
  | succ n ih =>
    intro h
    show bq_cnt p n + _ = bq_cnt q n + _
    rw [ih (fun i hi => h i (by omega)), h n (by omega)]
theorem bq_cnt_pos (p : Nat → Bool) : ∀ n, 0 < bq_cnt p n ↔ ∃ i, i < n ∧ p i = true := by
  intro n
  induction n with
  | zero => exact ⟨fun h => absurd h (Nat.lt_irrefl 0), fun ⟨i, hi, _⟩ => absurd hi (Nat.not_lt_zero i)⟩
  | succ n ih =>
    show 0 < bq_cnt p n + _ ↔ _
    constructor
    · intro h
      by_cases hp : p n = true
      · exact ⟨n, by omega, hp⟩
      · rw [if_neg hp] at h
        obtain ⟨i, hi, e⟩ := ih.1 (by omega)
        exact ⟨i, by omega, e⟩
    · intro ⟨i, hi, e⟩
      by_cases hin : i = n
      · subst hin; rw [if_pos e]; omega
      · have := ih.2 ⟨i, by omega, e⟩
        omega
theorem bq_cnt_split (p g : Nat → Bool) : ∀ n, bq_cnt (fun i => p i && g i) n + bq_cnt (fun i => p i && !g i) n = bq_cnt p n := by
  intro n
  induction n with
  | zero => rfl
  | succ n ih =>
    show (bq_cnt (fun i => p i && g i) n + (if (p n && g n) = true then 1 else 0)) + (bq_cnt (fun i => p i && !g i) n + (if (p n && !g n) = true then 1 else 0)) = bq_cnt p n + (if p n = true then 1 else 0)
    rw [← ih]
    cases p n <;> cases g n <;> simp <;> omega
theorem bq_cnt_shift (p : Nat → Bool) (k : Nat) : ∀ m, k ≤ m → bq_cnt (fun i => if k ≤ i then p (i + 1) else p i) m + (if p k = true then 1 else 0) = bq_cnt p (m + 1) := by
  intro m
  induction m with
  | zero =>
    intro h
    have e : k = 0 := by omega
    subst e
    rfl
  | succ m ih =>
    intro h
    by_cases e : k = m + 1
    · subst e
      show bq_cnt _ (m + 1) + _ = bq_cnt p (m + 1) + (if p (m + 1) = true then 1 else 0)
      rw [bq_cnt_ext (p := fun i => if m + 1 ≤ i then p (i + 1) else p i) (q := p) (m + 1) (fun i hi => if_neg (by omega))]
    · have := ih (by omega)
      show bq_cnt _ m + (if (if k ≤ m then p (m + 1) else p m) = true then 1 else 0) + _ = bq_cnt p (m + 1) + (if p (m + 1) = true then 1 else 0)
      rw [if_pos (show k ≤ m by omega)]
      omega
def bq_leaf (w : Nat) (g : Nat → Bool) (n : Nat) (p : Nat → Bool) : Nat :=
  if bq_cnt (fun i => p i && !g i) n ≤ bq_cnt (fun i => p i && g i) n then w * bq_cnt (fun i => p i && !g i) n else w * bq_cnt (fun i => p i && g i) n
theorem bq_leaf_ext {w n : Nat} {g p q : Nat → Bool} (h : ∀ i, i < n → p i = q i) : bq_leaf w g n p = bq_leaf w g n q := by
  have e1 := bq_cnt_ext (p := fun i => p i && g i) (q := fun i => q i && g i) n (fun i hi => by show (p i && g i) = (q i && g i); rw [h i hi])
  have e2 := bq_cnt_ext (p := fun i => p i && !g i) (q := fun i => q i && !g i) n (fun i hi => by show (p i && !g i) = (q i && !g i); rw [h i hi])
  unfold bq_leaf
  rw [e1, e2]
theorem bq_leaf_le (w : Nat) (g : Nat → Bool) (n : Nat) (p : Nat → Bool) : bq_leaf w g n p ≤ w * n := by
  unfold bq_leaf
  split
  · exact Nat.mul_le_mul_left w (bq_cnt_le _ n)
  · exact Nat.mul_le_mul_left w (bq_cnt_le _ n)
def bq_min (b : Nat) (o : Nat → Nat) : Nat → Nat
  | 0 => b
  | k + 1 => if bq_min b o k ≤ o k then bq_min b o k else o k
theorem bq_min_iff (b : Nat) (o : Nat → Nat) (z : Nat) : ∀ k, z ≤ bq_min b o k ↔ z ≤ b ∧ ∀ f, f < k → z ≤ o f := by
  intro k
  induction k with
  | zero => exact ⟨fun h => ⟨h, fun f hf => absurd hf (Nat.not_lt_zero f)⟩, fun h => h.1⟩
  | succ k ih =>
    show z ≤ (if bq_min b o k ≤ o k then bq_min b o k else o k) ↔ _
    constructor
    · intro h
      have h1 : z ≤ bq_min b o k := by split at h <;> omega
      have h2 : z ≤ o k := by split at h <;> omega
      refine ⟨(ih.1 h1).1, fun f hf => ?_⟩
      by_cases e : f = k
      · subst e; exact h2
      · exact (ih.1 h1).2 f (by omega)
    · intro ⟨h1, h2⟩
      have h3 := ih.2 ⟨h1, fun f hf => h2 f (by omega)⟩
      have h4 := h2 k (by omega)
      split <;> omega
def bq_mu (b : Nat) (o : Nat → Nat) (a : Nat → Bool) : Nat → Nat
  | 0 => b
  | k + 1 => if a k = true then bq_mu b o a k else if bq_mu b o a k ≤ o k then bq_mu b o a k else o k
theorem bq_mu_iff (b : Nat) (o : Nat → Nat) (a : Nat → Bool) (z : Nat) : ∀ k, z ≤ bq_mu b o a k ↔ z ≤ b ∧ ∀ f, f < k → a f = false → z ≤ o f := by
  intro k
  induction k with
  | zero => exact ⟨fun h => ⟨h, fun f hf => absurd hf (Nat.not_lt_zero f)⟩, fun h => h.1⟩
  | succ k ih =>
    by_cases ha : a k = true
    · show z ≤ (if a k = true then bq_mu b o a k else _) ↔ _
      rw [if_pos ha, ih]
      refine ⟨fun h => ⟨h.1, fun f hf hz => ?_⟩, fun h => ⟨h.1, fun f hf => h.2 f (by omega)⟩⟩
      by_cases e : f = k
      · subst e; rw [ha] at hz; exact absurd hz (by decide)
      · exact h.2 f (by omega) hz
    · show z ≤ (if a k = true then bq_mu b o a k else if bq_mu b o a k ≤ o k then bq_mu b o a k else o k) ↔ _
      rw [if_neg ha]
      have ha' : a k = false := by cases h : a k <;> first | rfl | exact absurd h ha
      constructor
      · intro h
        have h1 : z ≤ bq_mu b o a k := by split at h <;> omega
        have h2 : z ≤ o k := by split at h <;> omega
        refine ⟨(ih.1 h1).1, fun f hf hz => ?_⟩
        by_cases e : f = k
        · subst e; exact h2
        · exact (ih.1 h1).2 f (by omega) hz
      · intro ⟨h1, h2⟩
        have h3 := ih.2 ⟨h1, fun f hf => h2 f (by omega)⟩
        have h4 := h2 k (by omega) ha'
        split <;> omega
def bq_C (w q : Nat) (g : Nat → Bool) (x : Nat → Nat) (n : Nat) : Nat → (Nat → Bool) → Nat
  | 0 => fun p => bq_leaf w g n p
  | d + 1 => fun p => bq_min (bq_leaf w g n p) (fun f => q + bq_C w q g x n d (fun i => p i && !(x i).testBit f) + bq_C w q g x n d (fun i => p i && (x i).testBit f)) 6
def bq_opt (w q : Nat) (g : Nat → Bool) (x : Nat → Nat) (n d : Nat) (p : Nat → Bool) (f : Nat) : Nat :=
  q + bq_C w q g x n d (fun i => p i && !(x i).testBit f) + bq_C w q g x n d (fun i => p i && (x i).testBit f)
theorem bq_C_s (w q : Nat) (g : Nat → Bool) (x : Nat → Nat) (n d : Nat) (p : Nat → Bool) : bq_C w q g x n (d + 1) p = bq_min (bq_leaf w g n p) (bq_opt w q g x n d p) 6 := rfl
theorem bq_C_ext {w q : Nat} {g : Nat → Bool} {x : Nat → Nat} {n : Nat} : ∀ (d : Nat) (p p' : Nat → Bool), (∀ i, i < n → p i = p' i) → bq_C w q g x n d p = bq_C w q g x n d p' := by
  intro d
  induction d with
  | zero => intro p p' h; exact bq_leaf_ext h
  | succ d ih =>
    intro p p' h
    have e : bq_opt w q g x n d p = bq_opt w q g x n d p' := by
      funext f
      unfold bq_opt
      rw [ih (fun i => p i && !(x i).testBit f) (fun i => p' i && !(x i).testBit f) (fun i hi => by show (p i && _) = (p' i && _); rw [h i hi]),
        ih (fun i => p i && (x i).testBit f) (fun i => p' i && (x i).testBit f) (fun i hi => by show (p i && _) = (p' i && _); rw [h i hi])]
    rw [bq_C_s, bq_C_s, bq_leaf_ext h, e]
theorem bq_C_leaf (w q : Nat) (g : Nat → Bool) (x : Nat → Nat) (n d : Nat) (p : Nat → Bool) : bq_C w q g x n d p ≤ bq_leaf w g n p := by
  cases d with
  | zero => exact Nat.le_refl _
  | succ d => exact ((bq_min_iff _ _ _ 6).1 (Nat.le_refl (bq_C w q g x n (d + 1) p))).1
theorem bq_C_le (w q : Nat) (g : Nat → Bool) (x : Nat → Nat) (n d : Nat) (p : Nat → Bool) : bq_C w q g x n d p ≤ w * n :=
  Nat.le_trans (bq_C_leaf w q g x n d p) (bq_leaf_le w g n p)
theorem bq_mono (w q : Nat) (g : Nat → Bool) (x : Nat → Nat) (n : Nat) : ∀ (d : Nat) (p : Nat → Bool), bq_C w q g x n (d + 1) p ≤ bq_C w q g x n d p := by
  intro d
  induction d with
  | zero => intro p; exact bq_C_leaf w q g x n 1 p
  | succ d ih =>
    intro p
    rw [bq_C_s w q g x n d p, bq_min_iff]
    refine ⟨bq_C_leaf w q g x n _ p, fun f hf => ?_⟩
    have h := ((bq_min_iff _ _ _ 6).1 (Nat.le_refl (bq_C w q g x n (d + 1 + 1) p))).2 f hf
    have h1 := ih (fun i => p i && !(x i).testBit f)
    have h2 := ih (fun i => p i && (x i).testBit f)
    show _ ≤ q + bq_C w q g x n d (fun i => p i && !(x i).testBit f) + bq_C w q g x n d (fun i => p i && (x i).testBit f)
    omega
theorem bq_step {w q : Nat} {g : Nat → Bool} {x : Nat → Nat} {n d : Nat} {p : Nat → Bool} (a : Nat → Bool) (o : Nat → Nat)
    (ho : ∀ f, f < 6 → a f = false → o f = bq_opt w q g x n d p f) (ha : ∀ f, f < 6 → a f = true → bq_C w q g x n d p ≤ bq_opt w q g x n d p f) :
    bq_mu (bq_C w q g x n d p) o a 6 = bq_C w q g x n (d + 1) p := by
  apply Nat.le_antisymm
  · rw [bq_C_s, bq_min_iff]
    have h := (bq_mu_iff (bq_C w q g x n d p) o a _ 6).1 (Nat.le_refl _)
    refine ⟨Nat.le_trans h.1 (bq_C_leaf w q g x n d p), fun f hf => ?_⟩
    cases hz : a f with
    | false => rw [← ho f hf hz]; exact h.2 f hf hz
    | true => exact Nat.le_trans h.1 (ha f hf hz)
  · rw [bq_mu_iff]
    refine ⟨bq_mono w q g x n d p, fun f hf hz => ?_⟩
    rw [ho f hf hz]
    exact ((bq_min_iff _ _ _ 6).1 (Nat.le_refl (bq_C w q g x n (d + 1) p))).2 f hf
theorem bq_lex (g : Nat → Bool) (x : Nat → Nat) (n : Nat) : ∀ (d : Nat) (p : Nat → Bool), d ≤ 3 → ∃ m r : Nat, bq_C 100 1 g x n d p = 100 * m + r ∧ bq_C 8 1 g x n d p = 8 * m + r ∧ r + 1 ≤ 2 ^ d := by
  intro d
  have hl : ∀ p : Nat → Bool, ∃ m : Nat, bq_leaf 100 g n p = 100 * m ∧ bq_leaf 8 g n p = 8 * m := by
    intro p
    unfold bq_leaf
    by_cases h : bq_cnt (fun i => p i && !g i) n ≤ bq_cnt (fun i => p i && g i) n
    · rw [if_pos h, if_pos h]; exact ⟨_, rfl, rfl⟩
    · rw [if_neg h, if_neg h]; exact ⟨_, rfl, rfl⟩
  induction d with
  | zero =>
    intro p _
    obtain ⟨m, h1, h2⟩ := hl p
    exact ⟨m, 0, h1, h2, Nat.le_refl 1⟩
  | succ d ih =>
    intro p hd
    have hp : 2 ^ (d + 1) ≤ 8 := Nat.pow_le_pow_right (n := 2) (by decide) hd
    have hs : 2 ^ (d + 1) = 2 ^ d * 2 := Nat.pow_succ 2 d
    have h1d : 1 ≤ 2 ^ d := Nat.one_le_two_pow
    rw [bq_C_s, bq_C_s]
    suffices H : ∀ k, ∃ m r : Nat, bq_min (bq_leaf 100 g n p) (bq_opt 100 1 g x n d p) k = 100 * m + r ∧ bq_min (bq_leaf 8 g n p) (bq_opt 8 1 g x n d p) k = 8 * m + r ∧ r + 1 ≤ 2 ^ (d + 1) from H 6
    intro k
    induction k with
    | zero =>
      obtain ⟨m, h1, h2⟩ := hl p
      exact ⟨m, 0, h1, h2, by omega⟩
    | succ k ihk =>
      obtain ⟨m, r, e1, e2, hr⟩ := ihk
      obtain ⟨m1, r1, a1, b1, c1⟩ := ih (fun i => p i && !(x i).testBit k) (by omega)
      obtain ⟨m2, r2, a2, b2, c2⟩ := ih (fun i => p i && (x i).testBit k) (by omega)
      have o1 : bq_opt 100 1 g x n d p k = 100 * (m1 + m2) + (1 + r1 + r2) := by
        unfold bq_opt; rw [a1, a2]; omega
      have o2 : bq_opt 8 1 g x n d p k = 8 * (m1 + m2) + (1 + r1 + r2) := by
        unfold bq_opt; rw [b1, b2]; omega
      show ∃ m r : Nat, (if bq_min (bq_leaf 100 g n p) (bq_opt 100 1 g x n d p) k ≤ bq_opt 100 1 g x n d p k then bq_min (bq_leaf 100 g n p) (bq_opt 100 1 g x n d p) k else bq_opt 100 1 g x n d p k) = 100 * m + r ∧ (if bq_min (bq_leaf 8 g n p) (bq_opt 8 1 g x n d p) k ≤ bq_opt 8 1 g x n d p k then bq_min (bq_leaf 8 g n p) (bq_opt 8 1 g x n d p) k else bq_opt 8 1 g x n d p k) = 8 * m + r ∧ r + 1 ≤ 2 ^ (d + 1)
      rw [e1, e2, o1, o2]
      generalize 2 ^ (d + 1) = D at *
      generalize 2 ^ d = E at *
      by_cases h : 100 * m + r ≤ 100 * (m1 + m2) + (1 + r1 + r2)
      · rw [if_pos h, if_pos (by omega)]
        exact ⟨m, r, rfl, rfl, hr⟩
      · rw [if_neg h, if_neg (by omega)]
        exact ⟨m1 + m2, 1 + r1 + r2, rfl, rfl, by omega⟩
