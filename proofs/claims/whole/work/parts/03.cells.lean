/-! cells: asked features in the upper six bits, their answers in the lower six -/
def bq_mem (x : Nat → Nat) (c : Nat) : Nat → Bool := fun i => decide ((x i &&& (c / 64)) = c % 64)
def bq_ok (c : Nat) : Prop := ∀ j, j < 6 → c.testBit j = true → c.testBit (6 + j) = true
theorem bq_mem_iff {x : Nat → Nat} {c i : Nat} (hx : x i < 64) : bq_mem x c i = true ↔ ∀ j, j < 6 → ((x i).testBit j && c.testBit (6 + j)) = c.testBit j := by
  show decide ((x i &&& (c / 64)) = c % 64) = true ↔ _
  rw [decide_eq_true_iff]
  have a : ∀ j, (x i &&& (c / 64)).testBit j = ((x i).testBit j && c.testBit (6 + j)) := by
    intro j
    rw [Nat.testBit_and, show c / 64 = c / 2 ^ 6 from rfl, Nat.testBit_div_two_pow, Nat.add_comm j 6]
  have b : ∀ j, (c % 64).testBit j = (decide (j < 6) && c.testBit j) := by
    intro j
    rw [show c % 64 = c % 2 ^ 6 from rfl, Nat.testBit_mod_two_pow]
  constructor
  · intro h j hj
    rw [← a j, h, b j, decide_eq_true hj, Bool.true_and]
  · intro h
    apply Nat.eq_of_testBit_eq
    intro j
    rw [a, b]
    by_cases hj : j < 6
    · rw [h j hj, decide_eq_true hj, Bool.true_and]
    · have hz : (x i).testBit j = false := Nat.testBit_lt_two_pow (Nat.lt_of_lt_of_le hx (Nat.pow_le_pow_right (n := 2) (by decide) (show 6 ≤ j by omega)))
      rw [hz, decide_eq_false hj, Bool.false_and, Bool.false_and]
theorem bq_or (c k j : Nat) : (c ||| 2 ^ k).testBit j = (c.testBit j || decide (k = j)) := by
  rw [Nat.testBit_or, Nat.testBit_two_pow]
theorem bq_low {c f : Nat} (hc : bq_ok c) (hf : f < 6) (ha : c.testBit (6 + f) = false) : c.testBit f = false := by
  cases h : c.testBit f with
  | false => rfl
  | true => exact absurd ((hc f hf h).symm.trans ha) (by decide)
theorem bq_no6 {c f j : Nat} (hj : j < 6) : (c ||| 2 ^ (6 + f)).testBit j = c.testBit j := by
  rw [bq_or, decide_eq_false (by omega), Bool.or_false]
theorem bq_noU {c f j : Nat} : (c ||| 2 ^ (6 + f)).testBit (6 + j) = (c.testBit (6 + j) || decide (f = j)) := by
  rw [bq_or]
  congr 1
  exact decide_eq_decide.mpr (by omega)
theorem bq_ye6 {c f j : Nat} (hj : j < 6) : (c ||| 2 ^ (6 + f) ||| 2 ^ f).testBit j = (c.testBit j || decide (f = j)) := by
  rw [bq_or, bq_no6 hj]
theorem bq_yeU {c f j : Nat} (hf : f < 6) : (c ||| 2 ^ (6 + f) ||| 2 ^ f).testBit (6 + j) = (c.testBit (6 + j) || decide (f = j)) := by
  rw [bq_or, bq_noU, decide_eq_false (show ¬ f = 6 + j by omega), Bool.or_false]
theorem bq_ok_no {c f : Nat} (hc : bq_ok c) (hf : f < 6) : bq_ok (c ||| 2 ^ (6 + f)) := by
  intro j hj h
  rw [bq_no6 hj] at h
  rw [bq_noU, hc j hj h, Bool.true_or]
theorem bq_ok_ye {c f : Nat} (hc : bq_ok c) (hf : f < 6) : bq_ok (c ||| 2 ^ (6 + f) ||| 2 ^ f) := by
  intro j hj h
  rw [bq_ye6 hj] at h
  rw [bq_yeU hf]
  by_cases e : f = j
  · rw [decide_eq_true e, Bool.or_true]
  · rw [decide_eq_false e, Bool.or_false] at h
    rw [hc j hj h, Bool.true_or]
theorem bq_mem_no {x : Nat → Nat} {c f i : Nat} (hx : x i < 64) (hc : bq_ok c) (hf : f < 6) (ha : c.testBit (6 + f) = false) : bq_mem x (c ||| 2 ^ (6 + f)) i = (bq_mem x c i && !(x i).testBit f) := by
  have hl := bq_low hc hf ha
  rw [Bool.eq_iff_iff, Bool.and_eq_true, bq_mem_iff hx, bq_mem_iff hx]
  constructor
  · intro H
    have hxf : (x i).testBit f = false := by
      have := H f hf
      rw [bq_noU, bq_no6 hf, decide_eq_true rfl, Bool.or_true, Bool.and_true, hl] at this
      exact this
    refine ⟨fun j hj => ?_, by rw [hxf]; rfl⟩
    by_cases e : f = j
    · subst e; rw [hxf, hl, Bool.false_and]
    · have := H j hj
      rw [bq_noU, bq_no6 hj, decide_eq_false e, Bool.or_false] at this
      exact this
  · intro ⟨H, hxf⟩ j hj
    rw [bq_noU, bq_no6 hj]
    by_cases e : f = j
    · subst e
      cases hz : (x i).testBit f with
      | false => rw [hl, Bool.false_and]
      | true => rw [hz] at hxf; exact absurd hxf (by decide)
    · rw [decide_eq_false e, Bool.or_false]
      exact H j hj
theorem bq_mem_ye {x : Nat → Nat} {c f i : Nat} (hx : x i < 64) (hc : bq_ok c) (hf : f < 6) (ha : c.testBit (6 + f) = false) : bq_mem x (c ||| 2 ^ (6 + f) ||| 2 ^ f) i = (bq_mem x c i && (x i).testBit f) := by
  have hl := bq_low hc hf ha
  rw [Bool.eq_iff_iff, Bool.and_eq_true, bq_mem_iff hx, bq_mem_iff hx]
  constructor
  · intro H
    have hxf : (x i).testBit f = true := by
      have := H f hf
      rw [bq_yeU hf, bq_ye6 hf, decide_eq_true rfl, Bool.or_true, Bool.and_true, Bool.or_true] at this
      exact this
    refine ⟨fun j hj => ?_, hxf⟩
    by_cases e : f = j
    · subst e; rw [ha, hl, Bool.and_false]
    · have := H j hj
      rw [bq_yeU hf, bq_ye6 hj, decide_eq_false e, Bool.or_false, Bool.or_false] at this
      exact this
  · intro ⟨H, hxf⟩ j hj
    rw [bq_yeU hf, bq_ye6 hj]
    by_cases e : f = j
    · subst e
      rw [hxf, decide_eq_true rfl, Bool.or_true, Bool.or_true]; rfl
    · rw [decide_eq_false e, Bool.or_false, Bool.or_false]
      exact H j hj
theorem bq_no_gt {c f : Nat} (ha : c.testBit (6 + f) = false) : c < c ||| 2 ^ (6 + f) := by
  apply Nat.lt_of_le_of_ne Nat.left_le_or
  intro e
  have h : c.testBit (6 + f) = (c ||| 2 ^ (6 + f)).testBit (6 + f) := congrArg (fun z => z.testBit (6 + f)) e
  rw [bq_noU, ha, decide_eq_true rfl] at h
  exact absurd h (by decide)
theorem bq_ye_gt {c f : Nat} (ha : c.testBit (6 + f) = false) : c < c ||| 2 ^ (6 + f) ||| 2 ^ f :=
  Nat.lt_of_lt_of_le (bq_no_gt ha) Nat.left_le_or
theorem bq_no_lt {c f : Nat} (hc : c < 4096) (hf : f < 6) : c ||| 2 ^ (6 + f) < 4096 :=
  Nat.or_lt_two_pow (n := 12) hc (Nat.pow_lt_pow_right (by decide) (by omega))
theorem bq_ye_lt {c f : Nat} (hc : c < 4096) (hf : f < 6) : c ||| 2 ^ (6 + f) ||| 2 ^ f < 4096 :=
  Nat.or_lt_two_pow (n := 12) (bq_no_lt hc hf) (Nat.pow_lt_pow_right (by decide) (by omega))
theorem bq_again {w q : Nat} {g : Nat → Bool} {x : Nat → Nat} {n d c f : Nat} (hx : ∀ i, x i < 64) (hf : f < 6) (ha : c.testBit (6 + f) = true) : bq_C w q g x n d (bq_mem x c) ≤ bq_opt w q g x n d (bq_mem x c) f := by
  have H : ∀ i, bq_mem x c i = true → (x i).testBit f = c.testBit f := by
    intro i h
    have := (bq_mem_iff (hx i)).1 h f hf
    rw [ha, Bool.and_true] at this
    exact this
  unfold bq_opt
  cases hc : c.testBit f with
  | true =>
    rw [bq_C_ext d (fun i => bq_mem x c i && (x i).testBit f) (bq_mem x c) (fun i _ => by
      show (bq_mem x c i && (x i).testBit f) = bq_mem x c i
      cases h : bq_mem x c i with
      | false => rfl
      | true => rw [H i h, hc]; rfl)]
    omega
  | false =>
    rw [bq_C_ext d (fun i => bq_mem x c i && !(x i).testBit f) (bq_mem x c) (fun i _ => by
      show (bq_mem x c i && !(x i).testBit f) = bq_mem x c i
      cases h : bq_mem x c i with
      | false => rfl
      | true => rw [H i h, hc]; rfl)]
    omega
theorem bq_askN {w q : Nat} {g : Nat → Bool} {x : Nat → Nat} {n d c f : Nat} (hx : ∀ i, x i < 64) (hc : bq_ok c) (hf : f < 6) (ha : c.testBit (6 + f) = false) : q + bq_C w q g x n d (bq_mem x (c ||| 2 ^ (6 + f))) + bq_C w q g x n d (bq_mem x (c ||| 2 ^ (6 + f) ||| 2 ^ f)) = bq_opt w q g x n d (bq_mem x c) f := by
  unfold bq_opt
  rw [bq_C_ext d (bq_mem x (c ||| 2 ^ (6 + f))) (fun i => bq_mem x c i && !(x i).testBit f) (fun i _ => bq_mem_no (hx i) hc hf ha),
    bq_C_ext d (bq_mem x (c ||| 2 ^ (6 + f) ||| 2 ^ f)) (fun i => bq_mem x c i && (x i).testBit f) (fun i _ => bq_mem_ye (hx i) hc hf ha)]
def bq_ask (w q : Nat) (g : Nat → Bool) (x : Nat → Nat) (n d c f : Nat) : Nat := q + bq_C w q g x n d (bq_mem x (c ||| 2 ^ (6 + f))) + bq_C w q g x n d (bq_mem x (c ||| 2 ^ (6 + f) ||| 2 ^ f))
theorem bq_next {w q : Nat} {g : Nat → Bool} {x : Nat → Nat} {n d c : Nat} (hx : ∀ i, x i < 64) (hc : bq_ok c) : bq_mu (bq_C w q g x n d (bq_mem x c)) (bq_ask w q g x n d c) (fun f => c.testBit (6 + f)) 6 = bq_C w q g x n (d + 1) (bq_mem x c) :=
  bq_step (fun f => c.testBit (6 + f)) (bq_ask w q g x n d c) (fun f hf ha => bq_askN hx hc hf ha) (fun f hf ha => bq_again hx hf ha)
theorem bq_ok0 : bq_ok 0 := by
  intro j _ h
  rw [Nat.zero_testBit] at h
  exact absurd h (by decide)
theorem bq_mem0 (x : Nat → Nat) (i : Nat) : bq_mem x 0 i = true := by
  show decide ((x i &&& (0 / 64)) = 0 % 64) = true
  rw [decide_eq_true_iff]
  exact Nat.and_zero _
/-! the doubtful ones, by feature sets and by samples -/
def bq_sum (t : Nat → Nat) : Nat → Nat
  | 0 => 0
  | k + 1 => bq_sum t k + t k
theorem bq_sum_ext {s t : Nat → Nat} : ∀ k, (∀ v, v < k → s v = t v) → bq_sum s k = bq_sum t k := by
  intro k
  induction k with
  | zero => intro _; rfl
  | succ k ih =>
    intro h
    show bq_sum s k + s k = bq_sum t k + t k
    rw [ih (fun v hv => h v (by omega)), h k (by omega)]
theorem bq_sum_add (s t : Nat → Nat) : ∀ k, bq_sum (fun v => s v + t v) k = bq_sum s k + bq_sum t k := by
  intro k
  induction k with
  | zero => rfl
  | succ k ih =>
    show bq_sum (fun v => s v + t v) k + (s k + t k) = (bq_sum s k + s k) + (bq_sum t k + t k)
    omega
theorem bq_sum_0 : ∀ k, bq_sum (fun _ => 0) k = 0 := by
  intro k
  induction k with
  | zero => rfl
  | succ k ih => show bq_sum (fun _ => 0) k + 0 = 0; omega
theorem bq_sum_1 (y e : Nat) : ∀ k, bq_sum (fun v => if y = v then e else 0) k = if y < k then e else 0 := by
  intro k
  induction k with
  | zero => rfl
  | succ k ih =>
    show bq_sum (fun v => if y = v then e else 0) k + (if y = k then e else 0) = _
    rw [ih]
    by_cases h : y < k
    · rw [if_pos h, if_neg (by omega), if_pos (by omega)]; rfl
    · by_cases h2 : y = k
      · rw [if_neg h, if_pos h2, if_pos (by omega)]; omega
      · rw [if_neg h, if_neg h2, if_neg (by omega)]
theorem bq_dsum (D : Nat → Bool) (x : Nat → Nat) (K : Nat) (hx : ∀ i, x i < K) : ∀ n, bq_sum (fun v => if D v = true then bq_cnt (fun i => decide (x i = v)) n else 0) K = bq_cnt (fun i => D (x i)) n := by
  intro n
  induction n with
  | zero =>
    refine Eq.trans (bq_sum_ext K (t := fun _ => 0) ?_) (bq_sum_0 K)
    intro v _
    show (if D v = true then 0 else 0) = 0
    split <;> rfl
  | succ n ih =>
    show _ = bq_cnt (fun i => D (x i)) n + (if D (x n) = true then 1 else 0)
    rw [← ih]
    have e := bq_sum_1 (x n) (if D (x n) = true then 1 else 0) K
    rw [if_pos (hx n)] at e
    rw [← e, ← bq_sum_add]
    apply bq_sum_ext
    intro v _
    show (if D v = true then bq_cnt (fun i => decide (x i = v)) n + (if decide (x n = v) = true then 1 else 0) else 0) = (if D v = true then bq_cnt (fun i => decide (x i = v)) n else 0) + (if x n = v then (if D (x n) = true then 1 else 0) else 0)
    by_cases h : x n = v
    · rw [if_pos h, h, if_pos (decide_eq_true rfl)]
      by_cases hd : D v = true
      · rw [if_pos hd, if_pos hd, if_pos hd]
      · rw [if_neg hd, if_neg hd, if_neg hd]
    · rw [if_neg h, decide_eq_false h]
      by_cases hd : D v = true
      · rw [if_pos hd, if_pos hd]; rfl
      · rw [if_neg hd, if_neg hd]
