/-! the reference's walks, part two -/
theorem by_two_9 (n : Nat) (hn : n ≤ 48) (w q : Nat) (hw : w ≤ 100) (hq : q ≤ 20) (F G : Nat → Int32) (x : Nat → Nat) (hF : ∀ i, F i = nI (x i)) (hx : ∀ i, x i < 64)
    (post : Int32 → Prop) (s : Int64) (H : post (nI (bq_C w q (bs_g G) x n 2 (bs_m s)))) :
    ∀ e k, k + e = 6 → wY_two_9 post s (nI n) (nI w) (nI q) F G (e + 1) (nI (bq_min (bq_leaf w (bs_g G) n (bs_m s)) (bq_opt w q (bs_g G) x n 1 (bs_m s)) k)) (nI k) := by
  intro e
  induction e with
  | zero =>
    intro k hk
    have hk' : k = 6 := by omega
    subst hk'
    exact br_t bs_6l H
  | succ e ih =>
    intro k hk
    have J := ih (k + 1) (by omega)
    refine br_f (bs_6g (by omega)) ?_
    refine by_part n hn (nI w) (nI q) F G x hF hx w q (bs_g G) _ s k (by omega) (fun r h1 h2 => ?_)
    refine by_one n hn w q hw hq F G x hF hx _ _ ?_
    refine by_one n hn w q hw hq F G x hF hx _ _ ?_
    have hwn : w * n ≤ 4800 := Nat.mul_le_mul hw hn
    have b0 := bq_C_le w q (bs_g G) x n 1 (fun i => bs_m s i && !(x i).testBit k)
    have b1 := bq_C_le w q (bs_g G) x n 1 (fun i => bs_m s i && (x i).testBit k)
    have b2 := Nat.le_trans ((bq_min_iff (bq_leaf w (bs_g G) n (bs_m s)) (bq_opt w q (bs_g G) x n 1 (bs_m s)) _ k).1 (Nat.le_refl _)).1 (bq_leaf_le w (bs_g G) n (bs_m s))
    have v : (nI q + nI (bq_C w q (bs_g G) x n 1 (bs_m r))) + nI (bq_C w q (bs_g G) x n 1 (bs_m (s &&& (r ^^^ (-1))))) = nI (bq_opt w q (bs_g G) x n 1 (bs_m s) k) := by
      rw [h1 1, h2 1, nI_add, nI_add]; rfl
    refine nm_r v ?_
    have b3 : bq_opt w q (bs_g G) x n 1 (bs_m s) k ≤ 10000 := by unfold bq_opt; omega
    refine pk_le _ _ (fun h => nm_r (nI_1 k) ?_) (fun h => nm_r (nI_1 k) ?_) rfl rfl (by omega) (by omega)
    · have e3 : bq_min (bq_leaf w (bs_g G) n (bs_m s)) (bq_opt w q (bs_g G) x n 1 (bs_m s)) (k + 1) = bq_min (bq_leaf w (bs_g G) n (bs_m s)) (bq_opt w q (bs_g G) x n 1 (bs_m s)) k := if_pos h
      rw [e3] at J; exact J
    · have e3 : bq_min (bq_leaf w (bs_g G) n (bs_m s)) (bq_opt w q (bs_g G) x n 1 (bs_m s)) (k + 1) = bq_opt w q (bs_g G) x n 1 (bs_m s) k := if_neg (by omega)
      rw [e3] at J; exact J
theorem by_two (n : Nat) (hn : n ≤ 48) (w q : Nat) (hw : w ≤ 100) (hq : q ≤ 20) (F G : Nat → Int32) (x : Nat → Nat) (hF : ∀ i, F i = nI (x i)) (hx : ∀ i, x i < 64)
    (post : Int32 → Prop) (s : Int64) (H : post (nI (bq_C w q (bs_g G) x n 2 (bs_m s)))) : wpY_two post (nI n, nI w, nI q, F, G) s := by
  unfold wpY_two
  dsimp only
  refine by_leaf n hn w (nI q) F G _ s ?_
  exact ⟨7, by_two_9 n hn w q hw hq F G x hF hx post s H 6 0 rfl⟩
theorem by_least (n : Nat) (hn : n ≤ 48) (w q : Nat) (hw : w ≤ 100) (hq : q ≤ 20) (F G : Nat → Int32) (x : Nat → Nat) (hF : ∀ i, F i = nI (x i)) (hx : ∀ i, x i < 64)
    (post : Int32 → Prop) (s : Int64) (d : Nat) (hd : d ≤ 2) (H : post (nI (bq_C w q (bs_g G) x n d (bs_m s)))) : wpY_least post (nI n, nI w, nI q, F, G) s (nI d) := by
  unfold wpY_least
  dsimp only
  match d, hd, H with
  | 0, _, H => exact br_t rfl (by_leaf n hn w (nI q) F G _ s H)
  | 1, _, H => exact br_f (by decide) (br_t rfl (by_one n hn w q hw hq F G x hF hx _ s H))
  | 2, _, H => exact br_f (by decide) (br_f (by decide) (by_two n hn w q hw hq F G x hF hx _ s H))
def bq_T : Nat → Bool := fun _ => true
theorem bq_opt_ext {w q : Nat} {g : Nat → Bool} {x : Nat → Nat} {n d : Nat} {p p' : Nat → Bool} (h : ∀ i, i < n → p i = p' i) (f : Nat) : bq_opt w q g x n d p f = bq_opt w q g x n d p' f := by
  unfold bq_opt
  rw [bq_C_ext d (fun i => p i && !(x i).testBit f) (fun i => p' i && !(x i).testBit f) (fun i hi => by show (p i && _) = (p' i && _); rw [h i hi]),
    bq_C_ext d (fun i => p i && (x i).testBit f) (fun i => p' i && (x i).testBit f) (fun i hi => by show (p i && _) = (p' i && _); rw [h i hi])]
theorem by_allT {n : Nat} (hn : n ≤ 48) : ∀ i, i < n → bs_m (((1 : Int64) <<< ((nI n).toInt64 &&& 63)) - 1) i = bq_T i := by
  intro i hi
  rw [bs_all hn (by omega), decide_eq_true hi]; rfl
theorem by_by (n : Nat) (hn : n ≤ 48) (w q : Nat) (hw : w ≤ 100) (hq : q ≤ 20) (F G : Nat → Int32) (x : Nat → Nat) (hF : ∀ i, F i = nI (x i)) (hx : ∀ i, x i < 64)
    (post : Int32 → Prop) (d : Nat) (hd : d ≤ 2) (f : Nat) (hf : f < 6) (H : post (nI (bq_opt w q (bs_g G) x n d bq_T f))) : wpY_by post (nI n, nI w, nI q, F, G) (nI (d + 1)) (nI f) := by
  unfold wpY_by
  dsimp only
  unfold wpY_all
  dsimp only
  refine by_part n hn (nI w) (nI q) F G x hF hx w q (bs_g G) _ _ f hf (fun r h1 h2 => ?_)
  rw [nI_pred]
  refine by_least n hn w q hw hq F G x hF hx _ _ d hd ?_
  refine by_least n hn w q hw hq F G x hF hx _ _ d hd ?_
  rw [h1 d, h2 d, nI_add, nI_add]
  rw [← bq_opt_ext (by_allT hn) f] at H
  exact H
theorem by_cheapest_15 (n : Nat) (hn : n ≤ 48) (w q : Nat) (hw : w ≤ 100) (hq : q ≤ 20) (F G : Nat → Int32) (x : Nat → Nat) (hF : ∀ i, F i = nI (x i)) (hx : ∀ i, x i < 64)
    (post : Int32 → Prop) (d : Nat) (hd : d ≤ 2) (H : post (nI (bq_C w q (bs_g G) x n (d + 1) bq_T))) :
    ∀ e k, k + e = 6 → wY_cheapest_15 post (nI (d + 1)) (nI n) (nI w) (nI q) F G (e + 1) (nI (bq_min (bq_leaf w (bs_g G) n bq_T) (bq_opt w q (bs_g G) x n d bq_T) k)) (nI k) := by
  intro e
  induction e with
  | zero =>
    intro k hk
    have hk' : k = 6 := by omega
    subst hk'
    exact br_t bs_6l H
  | succ e ih =>
    intro k hk
    have J := ih (k + 1) (by omega)
    refine br_f (bs_6g (by omega)) (br_f (nI_nle (by omega) (by omega)) ?_)
    refine by_by n hn w q hw hq F G x hF hx _ d hd k (by omega) ?_
    have hwn : w * n ≤ 4800 := Nat.mul_le_mul hw hn
    have b0 := bq_C_le w q (bs_g G) x n d (fun i => bq_T i && !(x i).testBit k)
    have b1 := bq_C_le w q (bs_g G) x n d (fun i => bq_T i && (x i).testBit k)
    have b2 := Nat.le_trans ((bq_min_iff (bq_leaf w (bs_g G) n bq_T) (bq_opt w q (bs_g G) x n d bq_T) _ k).1 (Nat.le_refl _)).1 (bq_leaf_le w (bs_g G) n bq_T)
    have b3 : bq_opt w q (bs_g G) x n d bq_T k ≤ 10000 := by unfold bq_opt; omega
    refine pk_le _ _ (fun h => nm_r (nI_1 k) ?_) (fun h => nm_r (nI_1 k) ?_) rfl rfl (by omega) (by omega)
    · have e3 : bq_min (bq_leaf w (bs_g G) n bq_T) (bq_opt w q (bs_g G) x n d bq_T) (k + 1) = bq_min (bq_leaf w (bs_g G) n bq_T) (bq_opt w q (bs_g G) x n d bq_T) k := if_pos h
      rw [e3] at J; exact J
    · have e3 : bq_min (bq_leaf w (bs_g G) n bq_T) (bq_opt w q (bs_g G) x n d bq_T) (k + 1) = bq_opt w q (bs_g G) x n d bq_T k := if_neg (by omega)
      rw [e3] at J; exact J
theorem by_cheapest (n : Nat) (hn : n ≤ 48) (w q : Nat) (hw : w ≤ 100) (hq : q ≤ 20) (F G : Nat → Int32) (x : Nat → Nat) (hF : ∀ i, F i = nI (x i)) (hx : ∀ i, x i < 64)
    (post : Int32 → Prop) (d : Nat) (hd : d ≤ 3) (H : post (nI (bq_C w q (bs_g G) x n d bq_T))) : wpY_cheapest post (nI n, nI w, nI q, F, G) (nI d) := by
  unfold wpY_cheapest
  dsimp only
  unfold wpY_all
  dsimp only
  refine by_leaf n hn w (nI q) F G _ _ ?_
  rw [bq_leaf_ext (by_allT hn)]
  cases d with
  | zero => exact ⟨1, br_f (bs_6g (k := 0) (by decide)) (br_t (by decide) H)⟩
  | succ d => exact ⟨7, by_cheapest_15 n hn w q hw hq F G x hF hx post d (by omega) H 6 0 rfl⟩
def bq_arg (o : Nat → Nat) : Nat → Nat
  | 0 => 0
  | k + 1 => if o (bq_arg o k) ≤ o (k + 1) then bq_arg o k else k + 1
theorem bq_arg_le (o : Nat → Nat) : ∀ k, bq_arg o k ≤ k := by
  intro k
  induction k with
  | zero => exact Nat.le_refl 0
  | succ k ih =>
    show (if o (bq_arg o k) ≤ o (k + 1) then bq_arg o k else k + 1) ≤ k + 1
    split <;> omega
theorem by_opt_le (n : Nat) (hn : n ≤ 48) (w q : Nat) (hw : w ≤ 100) (hq : q ≤ 20) (g : Nat → Bool) (x : Nat → Nat) (d : Nat) (p : Nat → Bool) (f : Nat) : bq_opt w q g x n d p f ≤ 10000 := by
  have hwn : w * n ≤ 4800 := Nat.mul_le_mul hw hn
  have b0 := bq_C_le w q g x n d (fun i => p i && !(x i).testBit f)
  have b1 := bq_C_le w q g x n d (fun i => p i && (x i).testBit f)
  unfold bq_opt; omega
theorem by_question_28 (n : Nat) (hn : n ≤ 48) (w q : Nat) (hw : w ≤ 100) (hq : q ≤ 20) (F G : Nat → Int32) (x : Nat → Nat) (hF : ∀ i, F i = nI (x i)) (hx : ∀ i, x i < 64)
    (post : Int32 → SY → Prop) (d : Nat) (hd : d ≤ 2) (H : post (nI (bq_arg (bq_opt w q (bs_g G) x n d bq_T) 5)) (nI n, nI w, nI q, F, G)) :
    ∀ e k, k + e = 5 → wY_question_28 post (nI (d + 1)) (nI n) (nI w) (nI q) F G (e + 1) (nI (bq_arg (bq_opt w q (bs_g G) x n d bq_T) k)) (nI (k + 1)) := by
  intro e
  induction e with
  | zero =>
    intro k hk
    have hk' : k = 5 := by omega
    subst hk'
    exact br_t bs_6l H
  | succ e ih =>
    intro k hk
    have J := ih (k + 1) (by omega)
    have la := bq_arg_le (bq_opt w q (bs_g G) x n d bq_T) k
    refine br_f (bs_6g (by omega)) ?_
    refine by_by n hn w q hw hq F G x hF hx _ d hd (k + 1) (by omega) ?_
    refine by_by n hn w q hw hq F G x hF hx _ d hd _ (by omega) ?_
    have b1 := by_opt_le n hn w q hw hq (bs_g G) x d bq_T (k + 1)
    have b2 := by_opt_le n hn w q hw hq (bs_g G) x d bq_T (bq_arg (bq_opt w q (bs_g G) x n d bq_T) k)
    refine pk_le _ _ (fun h => nm_r (nI_1 (k + 1)) ?_) (fun h => nm_r (nI_1 (k + 1)) ?_) rfl rfl (by omega) (by omega)
    · have e3 : bq_arg (bq_opt w q (bs_g G) x n d bq_T) (k + 1) = bq_arg (bq_opt w q (bs_g G) x n d bq_T) k := if_pos h
      rw [e3] at J; exact J
    · have e3 : bq_arg (bq_opt w q (bs_g G) x n d bq_T) (k + 1) = k + 1 := if_neg (by omega)
      rw [e3] at J; exact J
/-! doubtful -/
def bq_f (G : Nat → Int32) (x : Nat → Nat) (i : Nat) : Nat → Bool := fun j => decide (x i = x j) && decide (¬ G i = G j)
def bq_fl (b : Nat) : Int32 := if 0 < b then 1 else 0
theorem by_doubtful_17 (n : Nat) (hn : n ≤ 48) (M A : Int32) (F G : Nat → Int32) (x : Nat → Nat) (hF : ∀ i, F i = nI (x i)) (hx : ∀ i, x i < 64)
    (post : Int32 → Prop) (J : Int32 → Int32 → Prop) (c i : Nat) (hi : i < n)
    (H : J (nI (c + (if 0 < bq_cnt (bq_f G x i) n then 1 else 0))) (nI (i + 1))) :
    ∀ e k, k + e = n → wY_doubtful_17 post J (nI c) (nI i) (nI n) M A F G (e + 1) (bq_fl (bq_cnt (bq_f G x i) k)) (nI k) := by
  intro e
  induction e with
  | zero =>
    intro k hk
    have hk' : k = n := by omega
    subst hk'
    refine br_t (nI_le (Nat.le_refl _) (by omega)) ?_
    by_cases h : 0 < bq_cnt (bq_f G x i) k
    · rw [if_pos h] at H
      rw [show bq_fl (bq_cnt (bq_f G x i) k) = 1 from if_pos h]
      exact br_f (by decide) (nm_r (nI_1 c) (nm_r (nI_1 i) H))
    · rw [if_neg h] at H
      rw [show bq_fl (bq_cnt (bq_f G x i) k) = 0 from if_neg h]
      exact br_t rfl (nm_r (nI_1 i) H)
  | succ e ih =>
    intro k hk
    have Z := ih (k + 1) (by omega)
    have hkn : ¬ nI n ≤ nI k := nI_ge (by omega) (by omega)
    have v1 : vp_in (nI i) 48 := vp_in_nI (by omega) (by omega)
    have v2 : vp_in (nI k) 48 := vp_in_nI (by omega) (by omega)
    have hFe : F (nI i).toNatClampNeg = F (nI k).toNatClampNeg ↔ x i = x k := by
      rw [nI_clamp (by omega), nI_clamp (by omega), hF, hF]
      have := hx i
      have := hx k
      exact nI_eq (by omega) (by omega)
    have hGe : G (nI i).toNatClampNeg = G (nI k).toNatClampNeg ↔ G i = G k := by
      rw [nI_clamp (by omega), nI_clamp (by omega)]
    refine br_f hkn ⟨v1, v2, ?_⟩
    by_cases hxe : x i = x k
    · refine br_t (hFe.2 hxe) ⟨v1, v2, ?_⟩
      by_cases hge : G i = G k
      · rw [bs_cF (p := bq_f G x i) (k := k) (by show (decide (x i = x k) && decide (¬ G i = G k)) = false; rw [decide_eq_false (fun z : ¬ G i = G k => z hge), Bool.and_false])] at Z
        exact br_t (hGe.2 hge) (nm_r (nI_1 k) Z)
      · rw [bs_cT (p := bq_f G x i) (k := k) (by show (decide (x i = x k) && decide (¬ G i = G k)) = true; rw [decide_eq_true hge, decide_eq_true hxe]; rfl)] at Z
        rw [show bq_fl (bq_cnt (bq_f G x i) k + 1) = 1 from if_pos (by omega)] at Z
        exact br_f (fun z => hge (hGe.1 z)) (nm_r (nI_1 k) Z)
    · rw [bs_cF (p := bq_f G x i) (k := k) (by show (decide (x i = x k) && decide (¬ G i = G k)) = false; rw [decide_eq_false hxe, Bool.false_and])] at Z
      exact br_f (fun z => hxe (hFe.1 z)) (nm_r (nI_1 k) Z)
def bq_w (G : Nat → Int32) (x : Nat → Nat) (n : Nat) : Nat → Bool := fun i => decide (0 < bq_cnt (bq_f G x i) n)
theorem by_doubtful_4 (n : Nat) (hn : n ≤ 48) (M A : Int32) (F G : Nat → Int32) (x : Nat → Nat) (hF : ∀ i, F i = nI (x i)) (hx : ∀ i, x i < 64)
    (post : Int32 → Prop) (H : post (nI (bq_cnt (bq_w G x n) n))) :
    ∀ e k, k + e = n → wY_doubtful_4 post (nI n) M A F G (e + 1) (nI (bq_cnt (bq_w G x n) k)) (nI k) := by
  intro e
  induction e with
  | zero =>
    intro k hk
    have hk' : k = n := by omega
    subst hk'
    exact br_t (nI_le (Nat.le_refl _) (by omega)) H
  | succ e ih =>
    intro k hk
    have Z := ih (k + 1) (by omega)
    refine br_f (nI_ge (by omega) (by omega)) ⟨n + 1, ?_⟩
    refine by_doubtful_17 n hn M A F G x hF hx post _ _ k (by omega) ?_ n 0 (by omega)
    have e3 : bq_cnt (bq_w G x n) (k + 1) = bq_cnt (bq_w G x n) k + (if 0 < bq_cnt (bq_f G x k) n then 1 else 0) := by
      show bq_cnt (bq_w G x n) k + (if decide (0 < bq_cnt (bq_f G x k) n) = true then 1 else 0) = _
      simp only [decide_eq_true_eq]
    rw [e3] at Z
    exact Z
theorem by_doubtful (n : Nat) (hn : n ≤ 48) (M A : Int32) (F G : Nat → Int32) (x : Nat → Nat) (hF : ∀ i, F i = nI (x i)) (hx : ∀ i, x i < 64)
    (post : Int32 → Prop) (H : post (nI (bq_cnt (bq_w G x n) n))) : wpY_doubtful post (nI n, M, A, F, G) :=
  ⟨n + 1, by_doubtful_4 n hn M A F G x hF hx post H n 0 (by omega)⟩
