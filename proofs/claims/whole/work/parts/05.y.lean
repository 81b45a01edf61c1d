/-! the reference's walks, each against its pure value -/
def bs_g (G : Nat → Int32) : Nat → Bool := fun i => decide (¬ G i = 0)
theorem bs_g0 {G : Nat → Int32} {i : Nat} (h : G i = 0) : bs_g G i = false := decide_eq_false (fun z => z h)
theorem bs_g1 {G : Nat → Int32} {i : Nat} (h : ¬ G i = 0) : bs_g G i = true := decide_eq_true h
theorem bs_cT {p : Nat → Bool} {k : Nat} (h : p k = true) : bq_cnt p (k + 1) = bq_cnt p k + 1 := by
  show bq_cnt p k + (if p k = true then 1 else 0) = _
  rw [if_pos h]
theorem bs_cF {p : Nat → Bool} {k : Nat} (h : p k = false) : bq_cnt p (k + 1) = bq_cnt p k := by
  show bq_cnt p k + (if p k = true then 1 else 0) = _
  rw [h]; rfl
theorem bs_6g {k : Nat} (h : k < 6) : ¬ (6 : Int32) ≤ nI k := nI_ge (b := 6) h (by decide)
theorem bs_6l : (6 : Int32) ≤ nI 6 := by decide
theorem by_part_6 (n : Nat) (hn : n ≤ 48) (M A : Int32) (F G : Nat → Int32) (x : Nat → Nat) (hF : ∀ i, F i = nI (x i)) (hx : ∀ i, x i < 64)
    (post : Int64 → Prop) (s : Int64) (f : Nat) (hf : f < 6)
    (H : ∀ r : Int64, (∀ i, i < 64 → bs_m r i = (decide (i < n) && (bs_m s i && !(x i).testBit f))) → post r) :
    ∀ e k r, k + e = n → (∀ i, i < 64 → bs_m r i = (decide (i < k) && (bs_m s i && !(x i).testBit f))) → wY_part_6 post s (nI f) 0 (nI n) M A F G (e + 1) r (nI k) := by
  intro e
  induction e with
  | zero =>
    intro k r hk hr
    have hk' : k = n := by omega
    subst hk'
    exact br_t (nI_le (Nat.le_refl _) (by omega)) (H r hr)
  | succ e ih =>
    intro k r hk hr
    have hkn : ¬ nI n ≤ nI k := nI_ge (by omega) (by omega)
    refine br_f hkn ?_
    by_cases hb : bs_m s k = true
    · refine br_t ((bs_bit s (by omega)).2 hb) ⟨vp_in_nI (by omega) (by omega), br_t rfl ?_⟩
      have hz : ((F (nI k).toNatClampNeg >>> (nI f &&& 31)) &&& 1) = 0 ↔ (x k).testBit f = false := by
        rw [nI_clamp (by omega), hF]
        exact bs_fb0 (hx k) hf
      by_cases hxf : (x k).testBit f = false
      · refine br_t (hz.2 hxf) (nm_e (nm_r (nI_1 k) (ih (k + 1) _ (by omega) ?_)))
        intro i hi
        rw [bs_or r (by omega) hi, hr i hi]
        by_cases e1 : k = i
        · subst e1
          rw [hb, hxf, decide_eq_true rfl, decide_eq_true (show k < k + 1 by omega), Bool.or_true]; rfl
        · rw [decide_eq_false e1, Bool.or_false]
          congr 1
          exact decide_eq_decide.mpr (by omega)
      · refine br_f (fun z => hxf (hz.1 z)) (nm_r (nI_1 k) (ih (k + 1) _ (by omega) ?_))
        intro i hi
        rw [hr i hi]
        by_cases e1 : k = i
        · subst e1
          have hxt : (x k).testBit f = true := by cases h : (x k).testBit f <;> first | rfl | exact absurd h hxf
          rw [hxt, Bool.not_true, Bool.and_false, Bool.and_false, Bool.and_false]
        · congr 1
          exact decide_eq_decide.mpr (by omega)
    · refine br_f (fun z => hb ((bs_bit s (by omega)).1 z)) (nm_r (nI_1 k) (ih (k + 1) _ (by omega) ?_))
      intro i hi
      rw [hr i hi]
      by_cases e1 : k = i
      · subst e1
        have hbf : bs_m s k = false := by cases h : bs_m s k <;> first | rfl | exact absurd h hb
        rw [hbf, Bool.false_and, Bool.and_false, Bool.and_false]
      · congr 1
        exact decide_eq_decide.mpr (by omega)
theorem by_part (n : Nat) (hn : n ≤ 48) (M A : Int32) (F G : Nat → Int32) (x : Nat → Nat) (hF : ∀ i, F i = nI (x i)) (hx : ∀ i, x i < 64) (w q : Nat) (g : Nat → Bool)
    (post : Int64 → Prop) (s : Int64) (f : Nat) (hf : f < 6)
    (H : ∀ r : Int64, (∀ d, bq_C w q g x n d (bs_m r) = bq_C w q g x n d (fun i => bs_m s i && !(x i).testBit f)) → (∀ d, bq_C w q g x n d (bs_m (s &&& (r ^^^ (-1)))) = bq_C w q g x n d (fun i => bs_m s i && (x i).testBit f)) → post r) :
    wpY_part post (nI n, M, A, F, G) s (nI f) 0 := by
  refine ⟨n + 1, by_part_6 n hn M A F G x hF hx post s f hf ?_ n 0 0 (by omega) ?_⟩
  · intro r hr
    refine H r (fun d => bq_C_ext d _ _ (fun i hi => ?_)) (fun d => bq_C_ext d _ _ (fun i hi => ?_))
    · rw [hr i (by omega), decide_eq_true hi, Bool.true_and]
    · rw [bs_and s r (by omega), hr i (by omega), decide_eq_true hi, Bool.true_and]
      cases bs_m s i <;> cases (x i).testBit f <;> rfl
  · intro i hi
    rw [bs_zero, decide_eq_false (Nat.not_lt_zero i), Bool.false_and]
theorem by_leaf_8 (n : Nat) (hn : n ≤ 48) (w : Nat) (A : Int32) (F G : Nat → Int32)
    (post : Int32 → Prop) (s : Int64) (H : post (nI (bq_leaf w (bs_g G) n (bs_m s)))) :
    ∀ e k, k + e = n → wY_leaf_8 post s (nI n) (nI w) A F G (e + 1) (nI (bq_cnt (fun i => bs_m s i && bs_g G i) k)) (nI (bq_cnt (fun i => bs_m s i && !bs_g G i) k)) (nI k) := by
  intro e
  induction e with
  | zero =>
    intro k hk
    have hk' : k = n := by omega
    subst hk'
    refine br_t (nI_le (Nat.le_refl _) (by omega)) ?_
    have l1 := bq_cnt_le (fun i => bs_m s i && bs_g G i) k
    have l2 := bq_cnt_le (fun i => bs_m s i && !bs_g G i) k
    unfold bq_leaf at H
    refine pk_le _ _ (fun h => ?_) (fun h => ?_) rfl rfl (by omega) (by omega)
    · rw [if_pos h] at H
      rw [pk_mul]; exact H
    · rw [if_neg (by omega)] at H
      rw [pk_mul]; exact H
  | succ e ih =>
    intro k hk
    have hkn : ¬ nI n ≤ nI k := nI_ge (by omega) (by omega)
    have hi : vp_in (nI k) 48 := vp_in_nI (by omega) (by omega)
    have J := ih (k + 1) (by omega)
    refine br_f hkn ?_
    by_cases hb : bs_m s k = true
    · have hB := (bs_bit s (i := k) (by omega)).2 hb
      by_cases hg : G k = 0
      · have hg' : G (nI k).toNatClampNeg = 0 := by rw [nI_clamp (by omega)]; exact hg
        rw [bs_cF (p := fun i => bs_m s i && bs_g G i) (by show (bs_m s k && bs_g G k) = false; rw [hb, bs_g0 hg]; rfl), bs_cT (p := fun i => bs_m s i && !bs_g G i) (by show (bs_m s k && !bs_g G k) = true; rw [hb, bs_g0 hg]; rfl)] at J
        exact br_t hB ⟨hi, br_t hg' (br_t hB ⟨hi, br_t hg' (nm_r (nI_1 _) (nm_r (nI_1 _) J))⟩)⟩
      · have hg' : ¬ G (nI k).toNatClampNeg = 0 := by rw [nI_clamp (by omega)]; exact hg
        rw [bs_cT (p := fun i => bs_m s i && bs_g G i) (by show (bs_m s k && bs_g G k) = true; rw [hb, bs_g1 hg]; rfl), bs_cF (p := fun i => bs_m s i && !bs_g G i) (by show (bs_m s k && !bs_g G k) = false; rw [hb, bs_g1 hg]; rfl)] at J
        exact br_t hB ⟨hi, br_f hg' (nm_r (nI_1 _) (br_t hB ⟨hi, br_f hg' (nm_r (nI_1 _) J)⟩))⟩
    · have hB : ¬ ((s >>> ((nI k).toInt64 &&& 63)) &&& 1) = 1 := fun z => hb ((bs_bit s (by omega)).1 z)
      have hbf : bs_m s k = false := by cases h : bs_m s k <;> first | rfl | exact absurd h hb
      rw [bs_cF (p := fun i => bs_m s i && bs_g G i) (by show (bs_m s k && bs_g G k) = false; rw [hbf]; rfl), bs_cF (p := fun i => bs_m s i && !bs_g G i) (by show (bs_m s k && !bs_g G k) = false; rw [hbf]; rfl)] at J
      exact br_f hB (br_f hB (nm_r (nI_1 _) J))
theorem by_leaf (n : Nat) (hn : n ≤ 48) (w : Nat) (A : Int32) (F G : Nat → Int32)
    (post : Int32 → Prop) (s : Int64) (H : post (nI (bq_leaf w (bs_g G) n (bs_m s)))) : wpY_leaf post (nI n, nI w, A, F, G) s :=
  ⟨n + 1, by_leaf_8 n hn w A F G post s H n 0 (by omega)⟩
theorem by_one_9 (n : Nat) (hn : n ≤ 48) (w q : Nat) (hw : w ≤ 100) (hq : q ≤ 20) (F G : Nat → Int32) (x : Nat → Nat) (hF : ∀ i, F i = nI (x i)) (hx : ∀ i, x i < 64)
    (post : Int32 → Prop) (s : Int64) (H : post (nI (bq_C w q (bs_g G) x n 1 (bs_m s)))) :
    ∀ e k, k + e = 6 → wY_one_9 post s (nI n) (nI w) (nI q) F G (e + 1) (nI (bq_min (bq_leaf w (bs_g G) n (bs_m s)) (bq_opt w q (bs_g G) x n 0 (bs_m s)) k)) (nI k) := by
  intro e
  induction e with
  | zero =>
    intro k hk
    have hk' : k = 6 := by omega
    subst hk'
    exact br_t bs_6l H
  | succ e ih =>
    intro k hk
    have J := ih (k + 1) (by omega)
    refine br_f (bs_6g (by omega)) ?_
    refine by_part n hn (nI w) (nI q) F G x hF hx w q (bs_g G) _ s k (by omega) (fun r h1 h2 => ?_)
    refine by_leaf n hn w (nI q) F G _ _ ?_
    refine by_leaf n hn w (nI q) F G _ _ ?_
    have hwn : w * n ≤ 4800 := Nat.mul_le_mul hw hn
    have b0 := bq_C_le w q (bs_g G) x n 0 (fun i => bs_m s i && !(x i).testBit k)
    have b1 := bq_C_le w q (bs_g G) x n 0 (fun i => bs_m s i && (x i).testBit k)
    have b2 := Nat.le_trans ((bq_min_iff (bq_leaf w (bs_g G) n (bs_m s)) (bq_opt w q (bs_g G) x n 0 (bs_m s)) _ k).1 (Nat.le_refl _)).1 (bq_leaf_le w (bs_g G) n (bs_m s))
    have v : (nI q + nI (bq_leaf w (bs_g G) n (bs_m r))) + nI (bq_leaf w (bs_g G) n (bs_m (s &&& (r ^^^ (-1))))) = nI (bq_opt w q (bs_g G) x n 0 (bs_m s) k) := by
      have e1 : bq_leaf w (bs_g G) n (bs_m r) = bq_C w q (bs_g G) x n 0 (fun i => bs_m s i && !(x i).testBit k) := h1 0
      have e2 : bq_leaf w (bs_g G) n (bs_m (s &&& (r ^^^ (-1)))) = bq_C w q (bs_g G) x n 0 (fun i => bs_m s i && (x i).testBit k) := h2 0
      rw [e1, e2, nI_add, nI_add]; rfl
    refine nm_r v ?_
    have b3 : bq_opt w q (bs_g G) x n 0 (bs_m s) k ≤ 10000 := by unfold bq_opt; omega
    refine pk_le _ _ (fun h => nm_r (nI_1 k) ?_) (fun h => nm_r (nI_1 k) ?_) rfl rfl (by omega) (by omega)
    · have e3 : bq_min (bq_leaf w (bs_g G) n (bs_m s)) (bq_opt w q (bs_g G) x n 0 (bs_m s)) (k + 1) = bq_min (bq_leaf w (bs_g G) n (bs_m s)) (bq_opt w q (bs_g G) x n 0 (bs_m s)) k := if_pos h
      rw [e3] at J; exact J
    · have e3 : bq_min (bq_leaf w (bs_g G) n (bs_m s)) (bq_opt w q (bs_g G) x n 0 (bs_m s)) (k + 1) = bq_opt w q (bs_g G) x n 0 (bs_m s) k := if_neg (by omega)
      rw [e3] at J; exact J
theorem by_one (n : Nat) (hn : n ≤ 48) (w q : Nat) (hw : w ≤ 100) (hq : q ≤ 20) (F G : Nat → Int32) (x : Nat → Nat) (hF : ∀ i, F i = nI (x i)) (hx : ∀ i, x i < 64)
    (post : Int32 → Prop) (s : Int64) (H : post (nI (bq_C w q (bs_g G) x n 1 (bs_m s)))) : wpY_one post (nI n, nI w, nI q, F, G) s := by
  unfold wpY_one
  dsimp only
  refine by_leaf n hn w (nI q) F G _ s ?_
  exact ⟨7, by_one_9 n hn w q hw hq F G x hF hx post s H 6 0 rfl⟩
