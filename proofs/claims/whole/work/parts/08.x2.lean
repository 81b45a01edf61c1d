/-! the class's walks, part two -/
theorem bx_near (v : Int32) (lo hi : Nat) (hl : lo ≤ hi) (hh : hi < 2 ^ 31) : ∃ d, lo ≤ d ∧ d ≤ hi ∧ (∀ post : Int32 → Prop, post (nI d) → wpX_nearest post v (nI lo) (nI hi)) ∧ (∀ post : Int32 → Prop, post (nI d) → wpY_within post v (nI lo) (nI hi)) := by
  by_cases h : nI lo ≤ v
  · have h0 : ¬ v < 0 := by
      have z : (0 : Int32) ≤ nI lo := nI_pos' (by omega)
      exact Int32.not_lt.mpr (Int32.le_trans z h)
    obtain ⟨j, hj, rfl⟩ := nI_of h0
    have hlj := (nI_leI (by omega) hj).1 h
    by_cases h2 : nI j ≤ nI hi
    · exact ⟨j, hlj, (nI_leI hj hh).1 h2, fun _ hp => br_t h (br_t h2 hp), fun _ hp => br_t h (br_t h2 hp)⟩
    · exact ⟨hi, hl, Nat.le_refl _, fun _ hp => br_t h (br_f h2 hp), fun _ hp => br_t h (br_f h2 hp)⟩
  · exact ⟨lo, Nat.le_refl _, hl, fun _ hp => br_f h hp, fun _ hp => br_f h hp⟩
theorem bx_mT (x : Nat → Nat) : ∀ i, bq_mem x 0 i = bq_T i := fun i => bq_mem0 x i
theorem bx_c0 {w q : Nat} {g : Nat → Bool} {x : Nat → Nat} {n d : Nat} {L : Nat → Int32} (hL : ∀ c, c < 4096 → bq_ok c → L c = nI (bq_C w q g x n d (bq_mem x c))) : L 0 = nI (bq_C w q g x n d bq_T) := by
  rw [hL 0 (by omega) bq_ok0, bq_C_ext d (bq_mem x 0) bq_T (fun i _ => bx_mT x i)]
theorem bx_coa0 {post : Int32 → Prop} {fs : Int32} {a1 a2 G B L : Nat → Int32} {w q : Nat} {g : Nat → Bool} {x : Nat → Nat} (hx : ∀ i, x i < 64) {n d f : Nat} (hf : f < 6)
    (hL : ∀ c, c < 4096 → bq_ok c → L c = nI (bq_C w q g x n d (bq_mem x c))) (h : post (nI (bq_opt w q g x n d bq_T f))) : wpX_costOfAsking post (fs, a1, a2, G, B, L) 0 (nI f) (nI q) := by
  have hz : (0 : Nat).testBit (6 + f) = false := Nat.zero_testBit _
  refine bx_coa (c := 0) (by omega) hf ?_
  rw [hL _ (bq_no_lt (by omega) hf) (bq_ok_no bq_ok0 hf), hL _ (bq_ye_lt (by omega) hf) (bq_ok_ye bq_ok0 hf), nI_add, nI_add, bq_askN hx bq_ok0 hf hz, bq_opt_ext (fun i _ => bx_mT x i) f]
  exact h
theorem bx_question_42 (n : Nat) (hn : n ≤ 48) (w q : Nat) (hw : w ≤ 100) (hq : q ≤ 20) (g : Nat → Bool) (x : Nat → Nat) (hx : ∀ i, x i < 64) (d : Nat)
    (post : Int32 → SX → Prop) (fs : Int32) (a1 a2 G B L : Nat → Int32) (hL : ∀ c, c < 4096 → bq_ok c → L c = nI (bq_C w q g x n d (bq_mem x c)))
    (H : post (nI (bq_arg (bq_opt w q g x n d bq_T) 5)) (fs, a1, a2, G, B, L)) :
    ∀ e k, k + e = 5 → wX_question_42 post (nI q) fs a1 a2 G B L (e + 1) (nI (bq_arg (bq_opt w q g x n d bq_T) k)) (nI (bq_opt w q g x n d bq_T (bq_arg (bq_opt w q g x n d bq_T) k))) (nI (k + 1)) := by
  intro e
  induction e with
  | zero =>
    intro k hk
    have hk' : k = 5 := by omega
    subst hk'
    exact br_t bs_6l H
  | succ e ih =>
    intro k hk
    have J := ih (k + 1) (by omega)
    refine br_f (bs_6g (by omega)) ?_
    refine bx_coa0 hx (by omega) hL ?_
    have b1 := by_opt_le n hn w q hw hq g x d bq_T (k + 1)
    have b2 := by_opt_le n hn w q hw hq g x d bq_T (bq_arg (bq_opt w q g x n d bq_T) k)
    refine pk_le _ _ (fun h => nm_r (nI_1 (k + 1)) ?_) (fun h => nm_r (nI_1 (k + 1)) ?_) rfl rfl (by omega) (by omega)
    · have e3 : bq_arg (bq_opt w q g x n d bq_T) (k + 1) = bq_arg (bq_opt w q g x n d bq_T) k := if_pos h
      rw [e3] at J; exact J
    · have e3 : bq_arg (bq_opt w q g x n d bq_T) (k + 1) = k + 1 := if_neg (by omega)
      rw [e3] at J; exact J
/-! doubtful -/
def bx_gc (x : Nat → Nat) (g : Nat → Bool) (n v : Nat) : Nat := bq_cnt (fun i => bq_mem x (63 * 64 + (v &&& 63)) i && g i) n
def bx_bc (x : Nat → Nat) (g : Nat → Bool) (n v : Nat) : Nat := bq_cnt (fun i => bq_mem x (63 * 64 + (v &&& 63)) i && !g i) n
def bx_t (x : Nat → Nat) (g : Nat → Bool) (n v : Nat) : Nat := if bx_gc x g n v ≤ 0 then 0 else if bx_bc x g n v ≤ 0 then 0 else bx_gc x g n v + bx_bc x g n v
theorem bx_tS (x : Nat → Nat) (g : Nat → Bool) (n k : Nat) : bq_sum (bx_t x g n) (k + 1) = bq_sum (bx_t x g n) k + bx_t x g n k := rfl
theorem bx_doubtful_4 (n : Nat) (hn : n ≤ 48) (g : Nat → Bool) (x : Nat → Nat)
    (post : Int32 → Prop) (fs : Int32) (a1 a2 G B L : Nat → Int32)
    (hG : ∀ c, c < 4096 → G c = nI (bq_cnt (fun i => bq_mem x c i && g i) n)) (hB : ∀ c, c < 4096 → B c = nI (bq_cnt (fun i => bq_mem x c i && !g i) n))
    (H : post (nI (bq_sum (bx_t x g n) 64))) :
    ∀ e k, k + e = 64 → wX_doubtful_4 post fs a1 a2 G B L (e + 1) (nI (bq_sum (bx_t x g n) k)) (nI k) := by
  intro e
  induction e with
  | zero =>
    intro k hk
    have hk' : k = 64 := by omega
    subst hk'
    exact br_t bx_64l H
  | succ e ih =>
    intro k hk
    have J := ih (k + 1) (by omega)
    have hy : k &&& 63 < 64 := bs_andlt (by decide)
    have v : vp_in (nI (63 * 64 + (k &&& 63))) 4096 := vp_in_nI (by omega) (by omega)
    have l1 : bx_gc x g n k ≤ n := bq_cnt_le _ n
    have l2 : bx_bc x g n k ≤ n := bq_cnt_le _ n
    have h1 : G (63 * 64 + (k &&& 63)) = nI (bx_gc x g n k) := hG _ (by omega)
    have h2 : B (63 * 64 + (k &&& 63)) = nI (bx_bc x g n k) := hB _ (by omega)
    rw [bx_tS] at J
    refine br_f (bx_64g (by omega)) (bx_cell (k := 63) (by decide) ⟨v, ?_⟩)
    rw [nI_clamp (show 63 * 64 + (k &&& 63) < 2 ^ 31 by omega), h1, h2]
    refine pk_le _ 0 (fun h => nm_r (nI_1 k) ?_) (fun h => ⟨v, ?_⟩) rfl rfl (by omega) (by omega)
    · rw [show bx_t x g n k = 0 from if_pos h] at J; exact J
    · refine pk_le _ 0 (fun h' => nm_r (nI_1 k) ?_) (fun h' => ⟨v, v, nm_r ?_ (nm_r (nI_1 k) J)⟩) rfl rfl (by omega) (by omega)
      · rw [show bx_t x g n k = 0 from (if_neg (by omega)).trans (if_pos h')] at J; exact J
      · rw [show bx_t x g n k = bx_gc x g n k + bx_bc x g n k from (if_neg (by omega)).trans (if_neg (by omega)), nI_add, nI_add]
theorem bx_and63 {v : Nat} (hv : v < 64) : v &&& 63 = v := by
  have h := Nat.and_two_pow_sub_one_eq_mod v 6
  rw [show (63 : Nat) = 2 ^ 6 - 1 from rfl, h]
  exact Nat.mod_eq_of_lt hv
theorem bx_mem63 {x : Nat → Nat} (hx : ∀ i, x i < 64) {v i : Nat} (hv : v < 64) : bq_mem x (63 * 64 + (v &&& 63)) i = decide (x i = v) := by
  show decide ((x i &&& ((63 * 64 + (v &&& 63)) / 64)) = (63 * 64 + (v &&& 63)) % 64) = _
  rw [bx_and63 hv, show (63 * 64 + v) / 64 = 63 by omega, show (63 * 64 + v) % 64 = v by omega, bx_and63 (hx i)]
theorem bx_sumw {x : Nat → Nat} (hx : ∀ i, x i < 64) {G : Nat → Int32} (h01 : ∀ i, G i = 0 ∨ G i = 1) (n : Nat) : bq_sum (bx_t x (bs_g G) n) 64 = bq_cnt (bq_w G x n) n := by
  have gc : ∀ v, v < 64 → (0 < bx_gc x (bs_g G) n v ↔ ∃ j, j < n ∧ x j = v ∧ ¬ G j = 0) := by
    intro v hv
    unfold bx_gc
    rw [bq_cnt_pos]
    constructor
    · intro ⟨j, hj, h⟩
      rw [bx_mem63 hx hv, Bool.and_eq_true, decide_eq_true_iff] at h
      exact ⟨j, hj, h.1, of_decide_eq_true h.2⟩
    · intro ⟨j, hj, h1, h2⟩
      refine ⟨j, hj, ?_⟩
      rw [bx_mem63 hx hv, Bool.and_eq_true, decide_eq_true_iff]
      exact ⟨h1, decide_eq_true h2⟩
  have bc : ∀ v, v < 64 → (0 < bx_bc x (bs_g G) n v ↔ ∃ j, j < n ∧ x j = v ∧ G j = 0) := by
    intro v hv
    unfold bx_bc
    rw [bq_cnt_pos]
    constructor
    · intro ⟨j, hj, h⟩
      rw [bx_mem63 hx hv, Bool.and_eq_true, decide_eq_true_iff] at h
      refine ⟨j, hj, h.1, ?_⟩
      by_cases z : G j = 0
      · exact z
      · rw [bs_g1 z] at h; exact absurd h.2 (by decide)
    · intro ⟨j, hj, h1, h2⟩
      refine ⟨j, hj, ?_⟩
      rw [bx_mem63 hx hv, Bool.and_eq_true, decide_eq_true_iff]
      exact ⟨h1, by rw [bs_g0 h2]; rfl⟩
  have e1 := bq_dsum (fun v => decide (0 < bx_gc x (bs_g G) n v) && decide (0 < bx_bc x (bs_g G) n v)) x 64 hx n
  refine Eq.trans (bq_sum_ext 64 (fun v hv => ?_)) (e1.trans (bq_cnt_ext n (fun i hi => ?_)))
  · have s := bq_cnt_split (bq_mem x (63 * 64 + (v &&& 63))) (bs_g G) n
    have s2 : bx_gc x (bs_g G) n v + bx_bc x (bs_g G) n v = bq_cnt (fun i => decide (x i = v)) n :=
      s.trans (bq_cnt_ext n (fun i _ => bx_mem63 hx hv))
    show (if bx_gc x (bs_g G) n v ≤ 0 then 0 else if bx_bc x (bs_g G) n v ≤ 0 then 0 else bx_gc x (bs_g G) n v + bx_bc x (bs_g G) n v) = (if (decide (0 < bx_gc x (bs_g G) n v) && decide (0 < bx_bc x (bs_g G) n v)) = true then bq_cnt (fun i => decide (x i = v)) n else 0)
    rw [s2]
    by_cases a : bx_gc x (bs_g G) n v ≤ 0
    · rw [if_pos a, decide_eq_false (show ¬ 0 < bx_gc x (bs_g G) n v by omega)]; rfl
    · by_cases b : bx_bc x (bs_g G) n v ≤ 0
      · rw [if_neg a, if_pos b, decide_eq_false (show ¬ 0 < bx_bc x (bs_g G) n v by omega), Bool.and_false]; rfl
      · rw [if_neg a, if_neg b, decide_eq_true (show 0 < bx_gc x (bs_g G) n v by omega), decide_eq_true (show 0 < bx_bc x (bs_g G) n v by omega)]; rfl
  · show (decide (0 < bx_gc x (bs_g G) n (x i)) && decide (0 < bx_bc x (bs_g G) n (x i))) = decide (0 < bq_cnt (bq_f G x i) n)
    rw [Bool.eq_iff_iff, Bool.and_eq_true, decide_eq_true_iff, decide_eq_true_iff, decide_eq_true_iff, gc _ (hx i), bc _ (hx i), bq_cnt_pos]
    constructor
    · intro ⟨⟨j, hj, j1, j2⟩, ⟨l, hl, l1, l2⟩⟩
      by_cases z : G i = 0
      · refine ⟨j, hj, ?_⟩
        show (decide (x i = x j) && decide (¬ G i = G j)) = true
        rw [Bool.and_eq_true, decide_eq_true_iff, decide_eq_true_iff]
        exact ⟨j1.symm, fun y => j2 (y.symm.trans z)⟩
      · refine ⟨l, hl, ?_⟩
        show (decide (x i = x l) && decide (¬ G i = G l)) = true
        rw [Bool.and_eq_true, decide_eq_true_iff, decide_eq_true_iff]
        exact ⟨l1.symm, fun y => z (y.trans l2)⟩
    · intro ⟨j, hj, h⟩
      have h' : (decide (x i = x j) && decide (¬ G i = G j)) = true := h
      rw [Bool.and_eq_true, decide_eq_true_iff, decide_eq_true_iff] at h'
      by_cases z : G i = 0
      · exact ⟨⟨j, hj, h'.1.symm, fun y => h'.2 (z.trans y.symm)⟩, ⟨i, hi, rfl, z⟩⟩
      · have zi : G i = 1 := (h01 i).resolve_left z
        have zj : G j = 0 := (h01 j).resolve_right (fun y => h'.2 (zi.trans y.symm))
        exact ⟨⟨i, hi, rfl, z⟩, ⟨j, hj, h'.1.symm, zj⟩⟩
/-! drop: the shift -/
def bx_sh {α : Type} (a : Nat → α) (m k : Nat) : Nat → α := fun i => if m ≤ i ∧ i < k then a (i + 1) else a i
theorem bx_sh0 {α : Type} (a : Nat → α) (m : Nat) : bx_sh a m m = a := by
  funext i
  exact if_neg (by omega)
theorem bx_shS (a : Nat → Int32) {m k : Nat} (h : m ≤ k) : upd (bx_sh a m k) k (bx_sh a m k (k + 1)) = bx_sh a m (k + 1) := by
  funext i
  by_cases e : i = k
  · subst e
    rw [pk_us]
    show (if m ≤ i + 1 ∧ i + 1 < i then a (i + 1 + 1) else a (i + 1)) = (if m ≤ i ∧ i < i + 1 then a (i + 1) else a i)
    rw [if_neg (by omega), if_pos (by omega)]
  · rw [pk_un e]
    show (if m ≤ i ∧ i < k then a (i + 1) else a i) = (if m ≤ i ∧ i < k + 1 then a (i + 1) else a i)
    by_cases c : m ≤ i ∧ i < k
    · rw [if_pos c, if_pos (by omega)]
    · rw [if_neg c, if_neg (by omega)]
theorem bx_sh01 {a : Nat → Int32} (h : ∀ i, a i = 0 ∨ a i = 1) (m k : Nat) : ∀ i, bx_sh a m k i = 0 ∨ bx_sh a m k i = 1 := by
  intro i
  show (if m ≤ i ∧ i < k then a (i + 1) else a i) = 0 ∨ (if m ≤ i ∧ i < k then a (i + 1) else a i) = 1
  split
  · exact h _
  · exact h _
theorem bx_drop_43 (post : Int32 → SX → Prop) (F D G B L : Nat → Int32) (h01 : ∀ i, D i = 0 ∨ D i = 1) (m n : Nat) (hn : n < 48)
    (H : post (nI n) (nI n, bx_sh F m n, bx_sh D m n, G, B, L)) :
    ∀ e k, k + e = n → m ≤ k → wX_drop_43 post (nI n) (e + 1) (nI k) (bx_sh F m k) (bx_sh D m k) G B L := by
  intro e
  induction e with
  | zero =>
    intro k hk _
    have hk' : k = n := by omega
    subst hk'
    exact br_t (nI_le (Nat.le_refl _) (by omega)) H
  | succ e ih =>
    intro k hk hm
    have v1 : vp_in (nI k + 1) 48 := by rw [nI_1]; exact vp_in_nI (by omega) (by omega)
    have v2 : vp_in (nI k) 48 := vp_in_nI (by omega) (by omega)
    refine br_f (nI_ge (by omega) (by omega)) ⟨v1, v2, nm_r ?_ ⟨v1, v2, nm_r ?_ (nm_r (nI_1 k) (ih (k + 1) (by omega) (by omega)))⟩⟩
    · rw [nI_1, nI_clamp (by omega), nI_clamp (by omega)]; exact bx_shS F hm
    · rw [nI_1, nI_clamp (by omega), nI_clamp (by omega), bs_nar (bx_sh01 h01 m k _)]; exact bx_shS D hm
theorem by_drop_26 (post : Int32 → SY → Prop) (F D : Nat → Int32) (M A : Int32) (h01 : ∀ i, D i = 0 ∨ D i = 1) (m n : Nat) (hn : n < 48)
    (H : post (nI n) (nI n, M, A, bx_sh F m n, bx_sh D m n)) :
    ∀ e k, k + e = n → m ≤ k → wY_drop_26 post (nI n) M A (e + 1) (nI k) (bx_sh F m k) (bx_sh D m k) := by
  intro e
  induction e with
  | zero =>
    intro k hk _
    have hk' : k = n := by omega
    subst hk'
    exact br_t (nI_le (Nat.le_refl _) (by omega)) H
  | succ e ih =>
    intro k hk hm
    have v1 : vp_in (nI k + 1) 48 := by rw [nI_1]; exact vp_in_nI (by omega) (by omega)
    have v2 : vp_in (nI k) 48 := vp_in_nI (by omega) (by omega)
    refine br_f (nI_ge (by omega) (by omega)) ⟨v1, v2, nm_r ?_ ⟨v1, v2, nm_r ?_ (nm_r (nI_1 k) (ih (k + 1) (by omega) (by omega)))⟩⟩
    · rw [nI_1, nI_clamp (by omega), nI_clamp (by omega)]; exact bx_shS F hm
    · rw [nI_1, nI_clamp (by omega), nI_clamp (by omega), bs_nar (bx_sh01 h01 m k _)]; exact bx_shS D hm
