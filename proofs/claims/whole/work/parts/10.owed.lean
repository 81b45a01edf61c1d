/-- both hold the same samples; the class's counts are those of the samples in each cell -/
def i_Rel (k : Nat) (u : SX) (v : SY) : Prop :=
  ∃ (n : Nat) (F D G B L : Nat → Int32) (M A : Int32) (x : Nat → Nat), u = (nI n, F, D, G, B, L) ∧ v = (nI n, M, A, F, D) ∧ bx_St n F D G B x
theorem i_up {k : Nat} {u : SX} {v : SY} (h : i_Rel k u v) : i_Rel (k + 3) u v := h
theorem i_vc0 : wpX_init (fun u => wpY_init (fun v => i_Rel 0 u v)) :=
  ⟨0, _, _, _, _, _, _, _, fun _ => 0, rfl, rfl, by omega, fun _ => rfl, fun _ => Nat.zero_lt_succ 63, fun _ => Or.inl rfl, fun _ _ => rfl, fun _ _ => rfl⟩
theorem i_vc_add {k : Nat} {u : SX} {v : SY} (I : i_Rel k u v) (hk : k + 3 ≤ 1536) (v1 : Int32) (v2 : Int32) : wpX_add (fun r u' => wpY_add (fun r' v' => r' = r ∧ i_Rel (k + 3) u' v') v v1 (lw_bz v2)) u v1 (lw_bz v2) := by
  obtain ⟨n, F, D, G, B, L, M, A, x, rfl, rfl, S⟩ := I
  have hn := S.1
  unfold wpX_add
  dsimp only
  have e48 : (48 : Int32) = nI 48 := rfl
  have hb := lw_bz_01 v2
  generalize lw_bz v2 = b at hb
  by_cases h : n < 48
  · have hi : vp_in (nI n) 48 := vp_in_nI h (by omega)
    have ey : v1 &&& 63 = nI (v1.toBitVec.toNat % 64) := pk_and v1 6 (by decide)
    have hy : v1.toBitVec.toNat % 64 < 64 := Nat.mod_lt _ (by decide)
    generalize v1.toBitVec.toNat % 64 = y at ey hy
    have eF : upd F (nI n).toNatClampNeg (nI y) = upd F n (nI y) := by rw [nI_clamp (by omega)]
    have eD : upd D (nI n).toNatClampNeg (vp_nar .boolean b) = upd D n b := by rw [nI_clamp (by omega), bs_nar hb]
    refine br_t (by rw [e48]; exact nI_lt h (by omega)) (nm_r ey ⟨hi, nm_r eF ⟨hi, nm_r eD (nm_r (nI_1 n) ?_)⟩⟩)
    refine bx_cic _ _ _ _ _ _ _ y b 1 ?_
    dsimp only
    unfold wpY_add
    dsimp only
    have hne : ¬ nI n = 48 := by rw [e48, nI_eq (by omega) (by omega)]; omega
    refine br_f hne ⟨hi, nm_r ((congrArg (upd F (nI n).toNatClampNeg) ey).trans eF) ⟨hi, nm_r eD (nm_r (nI_1 n) ?_)⟩⟩
    exact ⟨rfl, n + 1, _, _, _, _, L, M, A, _, rfl, rfl, bx_St_add S h hy hb⟩
  · have h48 : n = 48 := by omega
    subst h48
    refine br_f (by decide) ?_
    unfold wpY_add
    dsimp only
    exact br_t rfl ⟨rfl, 48, F, D, G, B, L, M, A, x, rfl, rfl, S⟩
theorem i_vc_drop {k : Nat} {u : SX} {v : SY} (I : i_Rel k u v) (hk : k + 3 ≤ 1536) (v1 : Int32) : wpX_drop (fun r u' => wpY_drop (fun r' v' => r' = r ∧ i_Rel (k + 3) u' v') v v1) u v1 := by
  obtain ⟨n, F, D, G, B, L, M, A, x, rfl, rfl, S⟩ := I
  have hn := S.1
  unfold wpX_drop
  dsimp only
  by_cases h0 : v1 < 0
  · refine br_t h0 ?_
    unfold wpY_drop
    dsimp only
    exact br_t h0 ⟨rfl, n, F, D, G, B, L, M, A, x, rfl, rfl, S⟩
  · by_cases h1 : v1 < nI n
    · obtain ⟨j, hj, rfl⟩ := nI_of h0
      have hjn := (nI_ltI hj (by omega)).1 h1
      obtain ⟨m, rfl⟩ : ∃ m, n = m + 1 := ⟨n - 1, by omega⟩
      have hi : vp_in (nI j) 48 := vp_in_nI (by omega) (by omega)
      refine br_f h0 (br_t h1 ⟨hi, hi, ?_⟩)
      rw [nI_clamp hj, S.2.1 j]
      refine bx_cic _ _ _ _ _ _ _ (x j) (D j) (-1) ?_
      dsimp only
      refine nm_r (nI_pred m) ?_
      have X := bx_drop_43 (fun r u' => wpY_drop (fun r' v' => r' = r ∧ i_Rel (k + 3) u' v') (nI (m + 1), M, A, F, D) (nI j)) F D (bx_sel G (x j) (-1) (¬ D j = 0)) (bx_sel B (x j) (-1) (D j = 0)) L S.2.2.2.1 j m (by omega) ?_ (m - j) j (by omega) (Nat.le_refl _)
      · rw [bx_sh0, bx_sh0] at X
        exact ⟨_, X⟩
      · unfold wpY_drop
        dsimp only
        refine br_f h0 (br_t h1 (nm_r (nI_pred m) ?_))
        have Y := by_drop_26 (fun r' v' => r' = nI m ∧ i_Rel (k + 3) (nI m, bx_sh F j m, bx_sh D j m, bx_sel G (x j) (-1) (¬ D j = 0), bx_sel B (x j) (-1) (D j = 0), L) v') F D M A S.2.2.2.1 j m (by omega) ⟨rfl, m, _, _, _, _, L, M, A, _, rfl, rfl, bx_St_drop S (by omega)⟩ (m - j) j (by omega) (Nat.le_refl _)
        rw [bx_sh0, bx_sh0] at Y
        exact ⟨_, Y⟩
    · refine br_f h0 (br_f h1 ?_)
      unfold wpY_drop
      dsimp only
      exact br_f h0 (br_f h1 ⟨rfl, n, F, D, G, B, L, M, A, x, rfl, rfl, S⟩)
theorem i_vc_mistakes {k : Nat} {u : SX} {v : SY} (I : i_Rel k u v) (hk : k + 3 ≤ 1536) (v1 : Int32) : wpX_mistakes (fun r u' => wpY_mistakes (fun r' v' => r' = r ∧ i_Rel (k + 3) u' v') v v1) u v1 := by
  obtain ⟨n, F, D, G, B, L, M, A, x, rfl, rfl, S⟩ := I
  have S' := S
  obtain ⟨hn, hF, hx, h01, hG, hB⟩ := S'
  obtain ⟨d, _, hd, nx, ny⟩ := bx_near v1 0 3 (by decide) (by decide)
  unfold wpX_mistakes
  dsimp only
  refine nx _ ?_
  refine bx_flc 1 0 (by decide) (by decide) (bs_g D) x hx n hn d hd _ (nI n) F D G B L hG hB (fun L' hL => ?_)
  dsimp only
  unfold wpY_mistakes
  dsimp only
  unfold wpY_weigh
  dsimp only
  refine ny _ ?_
  refine by_cheapest n hn 1 0 (by decide) (by decide) F D x hF hx _ d hd ?_
  exact ⟨(bx_c0 hL).symm, n, F, D, G, B, L', 1, 0, x, rfl, rfl, S⟩
theorem i_vc_price {k : Nat} {u : SX} {v : SY} (I : i_Rel k u v) (hk : k + 3 ≤ 1536) (v1 : Int32) (v2 : Int32) : wpX_price (fun r u' => wpY_price (fun r' v' => r' = r ∧ i_Rel (k + 3) u' v') v v1 v2) u v1 v2 := by
  obtain ⟨n, F, D, G, B, L, M, A, x, rfl, rfl, S⟩ := I
  have S' := S
  obtain ⟨hn, hF, hx, h01, hG, hB⟩ := S'
  obtain ⟨d, _, hd, nx, ny⟩ := bx_near v1 0 3 (by decide) (by decide)
  obtain ⟨q, _, hq, mx, my⟩ := bx_near v2 0 20 (by decide) (by decide)
  unfold wpX_price
  dsimp only
  refine nx _ ?_
  refine mx _ ?_
  refine bx_flc 1 q (by decide) hq (bs_g D) x hx n hn d hd _ (nI n) F D G B L hG hB (fun L' hL => ?_)
  dsimp only
  unfold wpY_price
  dsimp only
  refine my _ ?_
  unfold wpY_weigh
  dsimp only
  refine ny _ ?_
  refine by_cheapest n hn 1 q (by decide) hq F D x hF hx _ d hd ?_
  exact ⟨(bx_c0 hL).symm, n, F, D, G, B, L', 1, nI q, x, rfl, rfl, S⟩
theorem i_vc_question {k : Nat} {u : SX} {v : SY} (I : i_Rel k u v) (hk : k + 3 ≤ 1536) (v1 : Int32) (v2 : Int32) : wpX_question (fun r u' => wpY_question (fun r' v' => r' = r ∧ i_Rel (k + 3) u' v') v v1 v2) u v1 v2 := by
  obtain ⟨n, F, D, G, B, L, M, A, x, rfl, rfl, S⟩ := I
  have S' := S
  obtain ⟨hn, hF, hx, h01, hG, hB⟩ := S'
  obtain ⟨d1, hd1, hd, nx, ny⟩ := bx_near v1 1 3 (by decide) (by decide)
  obtain ⟨q, _, hq, mx, my⟩ := bx_near v2 0 20 (by decide) (by decide)
  obtain ⟨d, rfl⟩ : ∃ d, d1 = d + 1 := ⟨d1 - 1, by omega⟩
  unfold wpX_question
  dsimp only
  refine nx _ ?_
  refine mx _ ?_
  rw [nI_pred]
  refine bx_flc 1 q (by decide) hq (bs_g D) x hx n hn d (by omega) _ (nI n) F D G B L hG hB (fun L' hL => ?_)
  dsimp only
  refine bx_coa0 (f := 0) hx (by decide) hL ?_
  refine ⟨_, bx_question_42 n hn 1 q (by decide) hq (bs_g D) x hx d _ (nI n) F D G B L' hL ?_ 5 0 rfl⟩
  unfold wpY_question
  dsimp only
  refine my _ ?_
  unfold wpY_weigh
  dsimp only
  refine ny _ ?_
  refine ⟨_, by_question_28 n hn 1 q (by decide) hq F D x hF hx _ d (by omega) ?_ 5 0 rfl⟩
  exact ⟨rfl, n, F, D, G, B, L', 1, nI q, x, rfl, rfl, S⟩
theorem i_vc_leaves {k : Nat} {u : SX} {v : SY} (I : i_Rel k u v) (hk : k + 3 ≤ 1536) (v1 : Int32) : wpX_leaves (fun r u' => wpY_leaves (fun r' v' => r' = r ∧ i_Rel (k + 3) u' v') v v1) u v1 := by
  obtain ⟨n, F, D, G, B, L, M, A, x, rfl, rfl, S⟩ := I
  have S' := S
  obtain ⟨hn, hF, hx, h01, hG, hB⟩ := S'
  obtain ⟨d, _, hd, nx, ny⟩ := bx_near v1 0 3 (by decide) (by decide)
  unfold wpX_leaves
  dsimp only
  refine nx _ ?_
  refine bx_flc 8 1 (by decide) (by decide) (bs_g D) x hx n hn d hd _ (nI n) F D G B L hG hB (fun L' hL => ?_)
  dsimp only
  refine ⟨by decide, ?_⟩
  unfold wpY_leaves
  dsimp only
  unfold wpY_weigh
  dsimp only
  refine ny _ ?_
  refine by_cheapest n hn 100 1 (by decide) (by decide) F D x hF hx _ d hd ?_
  refine ⟨by decide, ?_, n, F, D, G, B, L', 100, 1, x, rfl, rfl, S⟩
  have b1 : bq_C 100 1 (bs_g D) x n d bq_T ≤ 4800 := Nat.le_trans (bq_C_le 100 1 (bs_g D) x n d bq_T) (Nat.mul_le_mul_left 100 hn)
  have b2 : bq_C 8 1 (bs_g D) x n d bq_T ≤ 384 := Nat.le_trans (bq_C_le 8 1 (bs_g D) x n d bq_T) (Nat.mul_le_mul_left 8 hn)
  obtain ⟨m, r, e1, e2, hr⟩ := bq_lex (bs_g D) x n d bq_T hd
  have hp : 2 ^ d ≤ 8 := Nat.pow_le_pow_right (n := 2) (by decide) hd
  rw [bx_c0 hL]
  have r1 := pk_rem (a := bq_C 100 1 (bs_g D) x n d bq_T) (d := 100) (by omega) (by decide) (by decide)
  have r2 := pk_rem (a := bq_C 8 1 (bs_g D) x n d bq_T) (d := 8) (by omega) (by decide) (by decide)
  have s1 : bq_C 100 1 (bs_g D) x n d bq_T % 100 = r := by rw [e1]; omega
  have s2 : bq_C 8 1 (bs_g D) x n d bq_T % 8 = r := by rw [e2]; omega
  rw [s1] at r1
  rw [s2] at r2
  exact congrArg (· + 1) (r1.trans r2.symm)
theorem i_vc_mistakesBy {k : Nat} {u : SX} {v : SY} (I : i_Rel k u v) (hk : k + 3 ≤ 1536) (v1 : Int32) (v2 : Int32) : wpX_mistakesBy (fun r u' => wpY_mistakesBy (fun r' v' => r' = r ∧ i_Rel (k + 3) u' v') v v1 v2) u v1 v2 := by
  obtain ⟨n, F, D, G, B, L, M, A, x, rfl, rfl, S⟩ := I
  have S' := S
  obtain ⟨hn, hF, hx, h01, hG, hB⟩ := S'
  obtain ⟨d1, hd1, hd, nx, ny⟩ := bx_near v1 1 3 (by decide) (by decide)
  obtain ⟨d, rfl⟩ : ∃ d, d1 = d + 1 := ⟨d1 - 1, by omega⟩
  unfold wpX_mistakesBy
  dsimp only
  have e6 : (6 : Int32) = nI 6 := rfl
  have e5 : (5 : Int32) = nI 5 := rfl
  by_cases h0 : v2 < 0
  · refine br_t h0 ?_
    unfold wpY_mistakesBy
    dsimp only
    exact br_t h0 ⟨rfl, n, F, D, G, B, L, M, A, x, rfl, rfl, S⟩
  · obtain ⟨f, hf, rfl⟩ := nI_of h0
    by_cases h6 : f < 6
    · refine br_f h0 (br_t (by rw [e6]; exact nI_lt h6 (by omega)) ?_)
      refine nx _ ?_
      rw [nI_pred]
      refine bx_flc 1 0 (by decide) (by decide) (bs_g D) x hx n hn d (by omega) _ (nI n) F D G B L hG hB (fun L' hL => ?_)
      dsimp only
      refine bx_coa0 (q := 0) hx h6 hL ?_
      unfold wpY_mistakesBy
      dsimp only
      refine br_f h0 (br_t (by rw [e5]; exact nI_le (by omega) (by omega)) ?_)
      unfold wpY_weigh
      dsimp only
      refine ny _ ?_
      refine by_by n hn 1 0 (by decide) (by decide) F D x hF hx _ d (by omega) f h6 ?_
      exact ⟨rfl, n, F, D, G, B, L', 1, 0, x, rfl, rfl, S⟩
    · refine br_f h0 (br_f (by rw [e6]; exact nI_nlt (by omega) hf) ?_)
      unfold wpY_mistakesBy
      dsimp only
      refine br_f h0 (br_f (by rw [e5, nI_leI hf (by omega)]; omega) ?_)
      exact ⟨rfl, n, F, D, G, B, L, M, A, x, rfl, rfl, S⟩
theorem i_vc_doubtful {k : Nat} {u : SX} {v : SY} (I : i_Rel k u v) (hk : k + 3 ≤ 1536) : wpX_doubtful (fun r => wpY_doubtful (fun r' => r' = r ∧ i_Rel (k + 3) u v) v) u := by
  have I' := I
  obtain ⟨n, F, D, G, B, L, M, A, x, rfl, rfl, S⟩ := I'
  obtain ⟨hn, hF, hx, h01, hG, hB⟩ := S
  refine ⟨_, bx_doubtful_4 n hn (bs_g D) x _ (nI n) F D G B L hG hB ?_ 64 0 rfl⟩
  refine by_doubtful n hn M A F D x hF hx _ ?_
  exact ⟨congrArg nI (bx_sumw hx h01 n).symm, I⟩
