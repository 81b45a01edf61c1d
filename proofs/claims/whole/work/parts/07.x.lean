/-! the class's walks -/
def bx_bump (a : Nat → Int32) (x : Nat) (ch : Int32) (k : Nat) : Nat → Int32 := fun c => if c / 64 < k ∧ (x &&& (c / 64)) = c % 64 then a c + ch else a c
theorem bx_bump0 (a : Nat → Int32) (x : Nat) (ch : Int32) : bx_bump a x ch 0 = a := by
  funext c
  exact if_neg (fun z => absurd z.1 (Nat.not_lt_zero _))
theorem bx_bumpS (a : Nat → Int32) (x : Nat) (ch : Int32) {k : Nat} (hk : k < 64) : upd (bx_bump a x ch k) (k * 64 + (x &&& k)) (bx_bump a x ch k (k * 64 + (x &&& k)) + ch) = bx_bump a x ch (k + 1) := by
  funext c
  have hy : x &&& k < 64 := bs_andlt hk
  by_cases e : c = k * 64 + (x &&& k)
  · have h1 : c / 64 = k := by omega
    have h2 : c % 64 = x &&& k := by omega
    rw [← e, pk_us]
    show bx_bump a x ch k c + ch = (if c / 64 < k + 1 ∧ (x &&& (c / 64)) = c % 64 then a c + ch else a c)
    rw [show bx_bump a x ch k c = a c from if_neg (fun z => absurd z.1 (by omega)), if_pos ⟨by omega, by rw [h1, h2]⟩]
  · rw [pk_un e]
    show (if c / 64 < k ∧ (x &&& (c / 64)) = c % 64 then a c + ch else a c) = (if c / 64 < k + 1 ∧ (x &&& (c / 64)) = c % 64 then a c + ch else a c)
    by_cases h : c / 64 < k ∧ (x &&& (c / 64)) = c % 64
    · rw [if_pos h, if_pos ⟨by omega, h.2⟩]
    · rw [if_neg h, if_neg]
      intro z
      by_cases h3 : c / 64 = k
      · have z2 := z.2
        rw [h3] at z2
        exact e (by omega)
      · exact h ⟨by omega, z.2⟩
theorem bx_cell {post : Int32 → Prop} {k x : Nat} (hk : k < 64) (h : post (nI (k * 64 + (x &&& k)))) : wpX_cellOf post (nI k) (nI x) := by
  unfold wpX_cellOf
  rw [bs_cell hk]
  exact h
theorem bx_64l : (64 : Int32) ≤ nI 64 := by decide
theorem bx_64g {k : Nat} (h : k < 64) : ¬ (64 : Int32) ≤ nI k := nI_ge (b := 64) h (by decide)
theorem bx_4l : (4096 : Int32) ≤ nI 4096 := by decide
theorem bx_4g {k : Nat} (h : k < 4096) : ¬ (4096 : Int32) ≤ nI k := nI_ge (b := 4096) h (by decide)
theorem bx_cicB (post : SX → Prop) (fs : Int32) (a1 a2 G B L : Nat → Int32) (x : Nat) (gd ch : Int32) (hg : gd = 0) (H : post (fs, a1, a2, G, bx_bump B x ch 64, L)) :
    ∀ e k, k + e = 64 → wX_countInCells_3 post (nI x) gd ch fs (e + 1) (nI k) a1 a2 G (bx_bump B x ch k) L := by
  intro e
  induction e with
  | zero =>
    intro k hk
    have hk' : k = 64 := by omega
    subst hk'
    exact br_t bx_64l H
  | succ e ih =>
    intro k hk
    have hk' : k < 64 := by omega
    have hy : x &&& k < 64 := bs_andlt hk'
    have v : vp_in (nI (k * 64 + (x &&& k))) 4096 := vp_in_nI (by omega) (by omega)
    refine br_f (bx_64g hk') (bx_cell hk' (br_t hg ⟨v, v, nm_r ?_ (nm_r (nI_1 k) (ih (k + 1) (by omega)))⟩))
    rw [nI_clamp (by omega)]
    exact bx_bumpS B x ch hk'
theorem bx_cicG (post : SX → Prop) (fs : Int32) (a1 a2 G B L : Nat → Int32) (x : Nat) (gd ch : Int32) (hg : ¬ gd = 0) (H : post (fs, a1, a2, bx_bump G x ch 64, B, L)) :
    ∀ e k, k + e = 64 → wX_countInCells_3 post (nI x) gd ch fs (e + 1) (nI k) a1 a2 (bx_bump G x ch k) B L := by
  intro e
  induction e with
  | zero =>
    intro k hk
    have hk' : k = 64 := by omega
    subst hk'
    exact br_t bx_64l H
  | succ e ih =>
    intro k hk
    have hk' : k < 64 := by omega
    have hy : x &&& k < 64 := bs_andlt hk'
    have v : vp_in (nI (k * 64 + (x &&& k))) 4096 := vp_in_nI (by omega) (by omega)
    refine br_f (bx_64g hk') (bx_cell hk' (br_f hg ⟨v, v, nm_r ?_ (nm_r (nI_1 k) (ih (k + 1) (by omega)))⟩))
    rw [nI_clamp (by omega)]
    exact bx_bumpS G x ch hk'
def bx_sel (a : Nat → Int32) (x : Nat) (ch : Int32) (b : Prop) [Decidable b] : Nat → Int32 := if b then bx_bump a x ch 64 else a
theorem bx_cic (post : SX → Prop) (fs : Int32) (a1 a2 G B L : Nat → Int32) (x : Nat) (gd ch : Int32)
    (H : post (fs, a1, a2, bx_sel G x ch (¬ gd = 0), bx_sel B x ch (gd = 0), L)) : wpX_countInCells post (fs, a1, a2, G, B, L) (nI x) gd ch := by
  by_cases h : gd = 0
  · have e1 : bx_sel G x ch (¬ gd = 0) = G := if_neg (fun z => z h)
    have e2 : bx_sel B x ch (gd = 0) = bx_bump B x ch 64 := if_pos h
    rw [e1, e2] at H
    have := bx_cicB post fs a1 a2 G B L x gd ch h H 64 0 rfl
    rw [bx_bump0] at this
    exact ⟨_, this⟩
  · have e1 : bx_sel G x ch (¬ gd = 0) = bx_bump G x ch 64 := if_pos h
    have e2 : bx_sel B x ch (gd = 0) = B := if_neg h
    rw [e1, e2] at H
    have := bx_cicG post fs a1 a2 G B L x gd ch h H 64 0 rfl
    rw [bx_bump0] at this
    exact ⟨_, this⟩
theorem bx_ia1 {post : Int32 → Prop} {c f : Nat} (hc : c < 4096) (hf : f < 6) (ha : c.testBit (6 + f) = true) (h : post 1) : wpX_isAsked post (nI c) (nI f) :=
  br_t ((bs_ia hc hf).2 ha) h
theorem bx_ia0 {post : Int32 → Prop} {c f : Nat} (hc : c < 4096) (hf : f < 6) (ha : c.testBit (6 + f) = false) (h : post 0) : wpX_isAsked post (nI c) (nI f) :=
  br_f (fun z => absurd (((bs_ia hc hf).1 z).symm.trans ha) (by decide)) h
theorem bx_coa {post : Int32 → Prop} {fs Q : Int32} {a1 a2 G B L : Nat → Int32} {c f : Nat} (hc : c < 4096) (hf : f < 6) (h : post ((Q + L (c ||| 2 ^ (6 + f))) + L (c ||| 2 ^ (6 + f) ||| 2 ^ f))) :
    wpX_costOfAsking post (fs, a1, a2, G, B, L) (nI c) (nI f) Q := by
  have h1 := bq_no_lt hc hf
  have h2 := bq_ye_lt hc hf
  refine nm_r (bs_no c hf) (nm_r (bs_ye c hf) ⟨vp_in_nI h1 (by omega), vp_in_nI h2 (by omega), ?_⟩)
  rw [nI_clamp (by omega), nI_clamp (by omega)]
  exact h
def bx_I (w q : Nat) (g : Nat → Bool) (x : Nat → Nat) (n d k j : Nat) (L : Nat → Int32) : Prop :=
  (∀ c, c < 4096 → c ≠ k → bq_ok c → L c = nI (if c < k then bq_C w q g x n (d + 1) (bq_mem x c) else bq_C w q g x n d (bq_mem x c))) ∧
  (bq_ok k → L k = nI (bq_mu (bq_C w q g x n d (bq_mem x k)) (bq_ask w q g x n d k) (fun f => k.testBit (6 + f)) j))
theorem bx_ask (w q : Nat) (hw : w ≤ 100) (hq : q ≤ 20) (g : Nat → Bool) (x : Nat → Nat) (n : Nat) (hn : n ≤ 48) (d k : Nat) (hk : k < 4096)
    (post : SX → Prop) (J : Int32 → (Nat → Int32) → (Nat → Int32) → (Nat → Int32) → (Nat → Int32) → (Nat → Int32) → Prop) (fs : Int32) (a1 a2 G B : Nat → Int32)
    (H : ∀ L', bx_I w q g x n d k 6 L' → J (nI (k + 1)) a1 a2 G B L') :
    ∀ e j L, j + e = 6 → bx_I w q g x n d k j L → wX_allowOneDeeper_11 post J (nI q) (nI k) fs (e + 1) (nI j) a1 a2 G B L := by
  intro e
  induction e with
  | zero =>
    intro j L hj hI
    have hj' : j = 6 := by omega
    subst hj'
    exact br_t bs_6l (nm_r (nI_1 k) (H L hI))
  | succ e ih =>
    intro j L hj hI
    have hj' : j < 6 := by omega
    refine br_f (bs_6g hj') ?_
    cases ha : k.testBit (6 + j) with
    | true =>
      refine bx_ia1 hk hj' ha (br_f (by decide) (nm_r (nI_1 j) (ih (j + 1) L (by omega) ⟨hI.1, fun ok => ?_⟩)))
      rw [hI.2 ok]
      exact congrArg nI (if_pos ha).symm
    | false =>
      have vk : vp_in (nI k) 4096 := vp_in_nI hk (by omega)
      refine bx_ia0 hk hj' ha (br_t rfl (bx_coa hk hj' ⟨vk, ?_⟩))
      rw [nI_clamp (show k < 2 ^ 31 by omega)]
      have hr : bq_ok k → (nI q + L (k ||| 2 ^ (6 + j))) + L (k ||| 2 ^ (6 + j) ||| 2 ^ j) = nI (bq_ask w q g x n d k j) := by
        intro ok
        have g1 := bq_no_gt ha
        have g2 := bq_ye_gt ha
        rw [hI.1 _ (bq_no_lt hk hj') (by omega) (bq_ok_no ok hj'), hI.1 _ (bq_ye_lt hk hj') (by omega) (bq_ok_ye ok hj'), if_neg (by omega), if_neg (by omega), nI_add, nI_add]
        rfl
      have hwn : w * n ≤ 4800 := Nat.mul_le_mul hw hn
      have b0 := bq_C_le w q g x n d (bq_mem x (k ||| 2 ^ (6 + j)))
      have b1 := bq_C_le w q g x n d (bq_mem x (k ||| 2 ^ (6 + j) ||| 2 ^ j))
      have b2 : bq_ask w q g x n d k j ≤ 10000 := by unfold bq_ask; omega
      have b3 := Nat.le_trans ((bq_mu_iff (bq_C w q g x n d (bq_mem x k)) (bq_ask w q g x n d k) (fun f => k.testBit (6 + f)) _ j).1 (Nat.le_refl _)).1 (bq_C_le w q g x n d (bq_mem x k))
      have mS : bq_mu (bq_C w q g x n d (bq_mem x k)) (bq_ask w q g x n d k) (fun f => k.testBit (6 + f)) (j + 1) = (if bq_mu (bq_C w q g x n d (bq_mem x k)) (bq_ask w q g x n d k) (fun f => k.testBit (6 + f)) j ≤ bq_ask w q g x n d k j then bq_mu (bq_C w q g x n d (bq_mem x k)) (bq_ask w q g x n d k) (fun f => k.testBit (6 + f)) j else bq_ask w q g x n d k j) :=
        if_neg (fun z => absurd (z.symm.trans ha) (by decide))
      refine br_c (fun h => ⟨vk, vk, nm_e (nm_r (nI_1 j) (ih (j + 1) _ (by omega) ⟨fun c hc hne ok => ?_, fun ok => ?_⟩))⟩) (fun h => ⟨vk, nm_e (nm_r (nI_1 j) (ih (j + 1) _ (by omega) ⟨fun c hc hne ok => ?_, fun ok => ?_⟩))⟩)
      · rw [pk_un hne]; exact hI.1 c hc hne ok
      · rw [pk_us, mS]
        rw [hI.2 ok, hr ok, nI_leI (by omega) (by omega)] at h
        rw [if_pos h]; exact hI.2 ok
      · rw [pk_un hne]; exact hI.1 c hc hne ok
      · rw [pk_us, mS]
        rw [hI.2 ok, hr ok, nI_leI (by omega) (by omega)] at h
        rw [if_neg h]; exact hr ok
theorem bx_aod2 (w q : Nat) (hw : w ≤ 100) (hq : q ≤ 20) (g : Nat → Bool) (x : Nat → Nat) (hx : ∀ i, x i < 64) (n : Nat) (hn : n ≤ 48) (d : Nat)
    (post : SX → Prop) (fs : Int32) (a1 a2 G B : Nat → Int32)
    (H : ∀ L', (∀ c, c < 4096 → bq_ok c → L' c = nI (bq_C w q g x n (d + 1) (bq_mem x c))) → post (fs, a1, a2, G, B, L')) :
    ∀ e k L, k + e = 4096 → (∀ c, c < 4096 → bq_ok c → L c = nI (if c < k then bq_C w q g x n (d + 1) (bq_mem x c) else bq_C w q g x n d (bq_mem x c))) → wX_allowOneDeeper_2 post (nI q) fs (e + 1) (nI k) a1 a2 G B L := by
  intro e
  induction e with
  | zero =>
    intro k L hk hO
    have hk' : k = 4096 := by omega
    subst hk'
    refine br_t bx_4l (H L (fun c hc ok => ?_))
    rw [hO c hc ok, if_pos hc]
  | succ e ih =>
    intro k L hk hO
    have hk' : k < 4096 := by omega
    refine br_f (bx_4g hk') ⟨6 + 1, bx_ask w q hw hq g x n hn d k hk' post _ fs a1 a2 G B ?_ 6 0 L rfl ⟨fun c hc _ ok => hO c hc ok, fun ok => ?_⟩⟩
    · intro L' hI
      refine ih (k + 1) L' (by omega) (fun c hc ok => ?_)
      by_cases e1 : c = k
      · subst e1
        rw [hI.2 ok, bq_next hx ok, if_pos (by omega)]
      · rw [hI.1 c hc e1 ok]
        by_cases h : c < k
        · rw [if_pos h, if_pos (by omega)]
        · rw [if_neg h, if_neg (by omega)]
    · rw [hO k hk' ok, if_neg (Nat.lt_irrefl k)]
      rfl
theorem bx_aod (w q : Nat) (hw : w ≤ 100) (hq : q ≤ 20) (g : Nat → Bool) (x : Nat → Nat) (hx : ∀ i, x i < 64) (n : Nat) (hn : n ≤ 48) (d : Nat)
    (post : SX → Prop) (fs : Int32) (a1 a2 G B L : Nat → Int32) (hL : ∀ c, c < 4096 → bq_ok c → L c = nI (bq_C w q g x n d (bq_mem x c)))
    (H : ∀ L', (∀ c, c < 4096 → bq_ok c → L' c = nI (bq_C w q g x n (d + 1) (bq_mem x c))) → post (fs, a1, a2, G, B, L')) :
    wpX_allowOneDeeper post (fs, a1, a2, G, B, L) (nI q) :=
  ⟨_, bx_aod2 w q hw hq g x hx n hn d post fs a1 a2 G B H 4096 0 L rfl (fun c hc ok => by rw [hL c hc ok, if_neg (Nat.not_lt_zero c)])⟩
theorem bx_67 (w q : Nat) (hw : w ≤ 100) (hq : q ≤ 20) (g : Nat → Bool) (x : Nat → Nat) (hx : ∀ i, x i < 64) (n : Nat) (hn : n ≤ 48) (d : Nat) (hd : d ≤ 3)
    (post : SX → Prop) (fs : Int32) (a1 a2 G B : Nat → Int32)
    (H : ∀ L', (∀ c, c < 4096 → bq_ok c → L' c = nI (bq_C w q g x n d (bq_mem x c))) → post (fs, a1, a2, G, B, L')) :
    ∀ e j L, j + e = d → (∀ c, c < 4096 → bq_ok c → L c = nI (bq_C w q g x n j (bq_mem x c))) → wX_findLeastCosts_67 post (nI d) (nI q) (e + 1) (nI (j + 1)) fs a1 a2 G B L := by
  intro e
  induction e with
  | zero =>
    intro j L hj hL
    have hj' : j = d := by omega
    subst hj'
    exact br_t (nI_lt (by omega) (by omega)) (H L hL)
  | succ e ih =>
    intro j L hj hL
    refine br_f (nI_nlt (by omega) (by omega)) ?_
    refine bx_aod w q hw hq g x hx n hn j _ fs a1 a2 G B L hL (fun L' hL' => ?_)
    exact nm_r (nI_1 (j + 1)) (ih (j + 1) L' (by omega) hL')
theorem bx_flc3 (w q : Nat) (hw : w ≤ 100) (hq : q ≤ 20) (g : Nat → Bool) (x : Nat → Nat) (hx : ∀ i, x i < 64) (n : Nat) (hn : n ≤ 48) (d : Nat) (hd : d ≤ 3)
    (post : SX → Prop) (fs : Int32) (a1 a2 G B : Nat → Int32)
    (hG : ∀ c, c < 4096 → G c = nI (bq_cnt (fun i => bq_mem x c i && g i) n)) (hB : ∀ c, c < 4096 → B c = nI (bq_cnt (fun i => bq_mem x c i && !g i) n))
    (H : ∀ L', (∀ c, c < 4096 → bq_ok c → L' c = nI (bq_C w q g x n d (bq_mem x c))) → post (fs, a1, a2, G, B, L')) :
    ∀ e k L, k + e = 4096 → (∀ c, c < k → L c = nI (bq_leaf w g n (bq_mem x c))) → wX_findLeastCosts_3 post (nI d) (nI w) (nI q) fs (e + 1) (nI k) a1 a2 G B L := by
  intro e
  induction e with
  | zero =>
    intro k L hk hL
    have hk' : k = 4096 := by omega
    subst hk'
    exact br_t bx_4l ⟨_, bx_67 w q hw hq g x hx n hn d hd post fs a1 a2 G B H d 0 L (by omega) (fun c hc _ => hL c hc)⟩
  | succ e ih =>
    intro k L hk hL
    have hk' : k < 4096 := by omega
    have v : vp_in (nI k) 4096 := vp_in_nI hk' (by omega)
    have l1 := bq_cnt_le (fun i => bq_mem x k i && g i) n
    have l2 := bq_cnt_le (fun i => bq_mem x k i && !g i) n
    refine br_f (bx_4g hk') ⟨v, v, ?_⟩
    unfold wX_findLeastCosts_45
    rw [nI_clamp (show k < 2 ^ 31 by omega)]
    have step : ∀ z : Int32, z * nI w = nI (bq_leaf w g n (bq_mem x k)) → ∀ c, c < k + 1 → upd L k (z * nI w) c = nI (bq_leaf w g n (bq_mem x c)) := by
      intro z hz c hc
      by_cases e1 : c = k
      · subst e1; rw [pk_us]; exact hz
      · rw [pk_un e1]; exact hL c (by omega)
    refine pk_le _ _ (fun h => ⟨v, v, nm_e (nm_r (nI_1 k) (ih (k + 1) _ (by omega) (step _ ?_)))⟩) (fun h => ⟨v, v, nm_e (nm_r (nI_1 k) (ih (k + 1) _ (by omega) (step _ ?_)))⟩) (hB k hk') (hG k hk') (by omega) (by omega)
    · rw [hB k hk', pk_mul, Nat.mul_comm]
      exact congrArg nI (if_pos h).symm
    · rw [hG k hk', pk_mul, Nat.mul_comm]
      exact congrArg nI (if_neg (by omega)).symm
theorem bx_flc (w q : Nat) (hw : w ≤ 100) (hq : q ≤ 20) (g : Nat → Bool) (x : Nat → Nat) (hx : ∀ i, x i < 64) (n : Nat) (hn : n ≤ 48) (d : Nat) (hd : d ≤ 3)
    (post : SX → Prop) (fs : Int32) (a1 a2 G B L : Nat → Int32)
    (hG : ∀ c, c < 4096 → G c = nI (bq_cnt (fun i => bq_mem x c i && g i) n)) (hB : ∀ c, c < 4096 → B c = nI (bq_cnt (fun i => bq_mem x c i && !g i) n))
    (H : ∀ L', (∀ c, c < 4096 → bq_ok c → L' c = nI (bq_C w q g x n d (bq_mem x c))) → post (fs, a1, a2, G, B, L')) :
    wpX_findLeastCosts post (fs, a1, a2, G, B, L) (nI d) (nI w) (nI q) :=
  ⟨_, bx_flc3 w q hw hq g x hx n hn d hd post fs a1 a2 G B hG hB H 4096 0 L rfl (fun c hc => absurd hc (Nat.not_lt_zero c))⟩
