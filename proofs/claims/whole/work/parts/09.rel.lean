/-! the relation and the counts under add and drop -/
def bx_St (n : Nat) (F D G B : Nat → Int32) (x : Nat → Nat) : Prop :=
  n ≤ 48 ∧ (∀ i, F i = nI (x i)) ∧ (∀ i, x i < 64) ∧ (∀ i, D i = 0 ∨ D i = 1) ∧
  (∀ c, c < 4096 → G c = nI (bq_cnt (fun i => bq_mem x c i && bs_g D i) n)) ∧ (∀ c, c < 4096 → B c = nI (bq_cnt (fun i => bq_mem x c i && !bs_g D i) n))
theorem bx_cd (x : Nat → Nat) (D : Nat → Int32) (hh : Int32 → Bool) (k m c : Nat) (hk : k ≤ m) :
    bq_cnt (fun i => bq_mem (bx_sh x k m) c i && hh (bx_sh D k m i)) m + (if (bq_mem x c k && hh (D k)) = true then 1 else 0) = bq_cnt (fun i => bq_mem x c i && hh (D i)) (m + 1) := by
  rw [← bq_cnt_shift (fun i => bq_mem x c i && hh (D i)) k m hk]
  congr 1
  apply bq_cnt_ext
  intro i hi
  show (decide ((bx_sh x k m i &&& (c / 64)) = c % 64) && hh (bx_sh D k m i)) = (if k ≤ i then (bq_mem x c (i + 1) && hh (D (i + 1))) else (bq_mem x c i && hh (D i)))
  by_cases h : k ≤ i
  · rw [if_pos h, show bx_sh x k m i = x (i + 1) from if_pos ⟨h, hi⟩, show bx_sh D k m i = D (i + 1) from if_pos ⟨h, hi⟩]; rfl
  · rw [if_neg h, show bx_sh x k m i = x i from if_neg (fun z => h z.1), show bx_sh D k m i = D i from if_neg (fun z => h z.1)]; rfl
def bx_up (x : Nat → Nat) (n y : Nat) : Nat → Nat := fun i => if i = n then y else x i
theorem bx_ca (x : Nat → Nat) (D : Nat → Int32) (hh : Int32 → Bool) (n y : Nat) (b : Int32) (c : Nat) :
    bq_cnt (fun i => bq_mem (bx_up x n y) c i && hh (upd D n b i)) (n + 1) = bq_cnt (fun i => bq_mem x c i && hh (D i)) n + (if (decide ((y &&& (c / 64)) = c % 64) && hh b) = true then 1 else 0) := by
  show bq_cnt (fun i => bq_mem (bx_up x n y) c i && hh (upd D n b i)) n + (if (decide ((bx_up x n y n &&& (c / 64)) = c % 64) && hh (upd D n b n)) = true then 1 else 0) = _
  rw [pk_us, show bx_up x n y n = y from if_pos rfl]
  congr 1
  apply bq_cnt_ext
  intro i hi
  show (decide ((bx_up x n y i &&& (c / 64)) = c % 64) && hh (upd D n b i)) = _
  rw [pk_un (by omega), show bx_up x n y i = x i from if_neg (by omega)]; rfl
theorem bx_selc (a : Nat → Int32) (y : Nat) (ch : Int32) (b : Prop) [Decidable b] {c : Nat} (hc : c < 4096) : bx_sel a y ch b c = (if (decide ((y &&& (c / 64)) = c % 64) && decide b) = true then a c + ch else a c) := by
  unfold bx_sel
  by_cases h : b
  · rw [if_pos h, decide_eq_true h, Bool.and_true]
    show (if c / 64 < 64 ∧ (y &&& (c / 64)) = c % 64 then a c + ch else a c) = _
    by_cases h2 : (y &&& (c / 64)) = c % 64
    · rw [if_pos ⟨by omega, h2⟩, if_pos (decide_eq_true h2)]
    · rw [if_neg (fun z => h2 z.2), if_neg (fun z => h2 (of_decide_eq_true z))]
  · rw [if_neg h, decide_eq_false h, Bool.and_false]; rfl
theorem bx_St_add {n : Nat} {F D G B : Nat → Int32} {x : Nat → Nat} (S : bx_St n F D G B x) (hn : n < 48) {y : Nat} (hy : y < 64) {b : Int32} (hb : b = 0 ∨ b = 1) :
    bx_St (n + 1) (upd F n (nI y)) (upd D n b) (bx_sel G y 1 (¬ b = 0)) (bx_sel B y 1 (b = 0)) (bx_up x n y) := by
  obtain ⟨_, hF, hx, h01, hG, hB⟩ := S
  refine ⟨by omega, fun i => ?_, fun i => ?_, fun i => ?_, fun c hc => ?_, fun c hc => ?_⟩
  · by_cases e : i = n
    · subst e; rw [pk_us, show bx_up x i y i = y from if_pos rfl]
    · rw [pk_un e, show bx_up x n y i = x i from if_neg e]; exact hF i
  · show (if i = n then y else x i) < 64
    split
    · exact hy
    · exact hx i
  · by_cases e : i = n
    · subst e; rw [pk_us]; exact hb
    · rw [pk_un e]; exact h01 i
  · have e1 := bx_ca x D (fun z => decide (¬ z = 0)) n y b c
    rw [bx_selc G y 1 (¬ b = 0) hc, hG c hc]
    refine Eq.trans ?_ (congrArg nI e1).symm
    by_cases h : (decide ((y &&& (c / 64)) = c % 64) && decide (¬ b = 0)) = true
    · rw [if_pos h, if_pos h]; exact nI_1 _
    · rw [if_neg h, if_neg h]; rfl
  · have e1 := bx_ca x D (fun z => !decide (¬ z = 0)) n y b c
    have e2 : (!decide (¬ b = 0)) = decide (b = 0) := by
      by_cases z : b = 0
      · rw [decide_eq_true z, decide_eq_false (fun w : ¬ b = 0 => w z)]; rfl
      · rw [decide_eq_false z, decide_eq_true z]; rfl
    rw [e2] at e1
    rw [bx_selc B y 1 (b = 0) hc, hB c hc]
    refine Eq.trans ?_ (congrArg nI e1).symm
    by_cases h : (decide ((y &&& (c / 64)) = c % 64) && decide (b = 0)) = true
    · rw [if_pos h, if_pos h]; exact nI_1 _
    · rw [if_neg h, if_neg h]; rfl
theorem bx_St_drop {m : Nat} {F D G B : Nat → Int32} {x : Nat → Nat} (S : bx_St (m + 1) F D G B x) {k : Nat} (hk : k ≤ m) :
    bx_St m (bx_sh F k m) (bx_sh D k m) (bx_sel G (x k) (-1) (¬ D k = 0)) (bx_sel B (x k) (-1) (D k = 0)) (bx_sh x k m) := by
  obtain ⟨hn, hF, hx, h01, hG, hB⟩ := S
  refine ⟨by omega, fun i => ?_, fun i => ?_, bx_sh01 h01 k m, fun c hc => ?_, fun c hc => ?_⟩
  · by_cases h : k ≤ i ∧ i < m
    · rw [show bx_sh F k m i = F (i + 1) from if_pos h, show bx_sh x k m i = x (i + 1) from if_pos h]; exact hF _
    · rw [show bx_sh F k m i = F i from if_neg h, show bx_sh x k m i = x i from if_neg h]; exact hF _
  · show (if k ≤ i ∧ i < m then x (i + 1) else x i) < 64
    split
    · exact hx _
    · exact hx _
  · have e1 := bx_cd x D (fun z => decide (¬ z = 0)) k m c hk
    rw [bx_selc G (x k) (-1) (¬ D k = 0) hc, hG c hc]
    have e3 : bq_cnt (fun i => bq_mem x c i && bs_g D i) (m + 1) = _ := e1.symm
    rw [e3]
    by_cases h : (decide ((x k &&& (c / 64)) = c % 64) && decide (¬ D k = 0)) = true
    · have h' : (bq_mem x c k && decide (¬ D k = 0)) = true := h
      rw [if_pos h, if_pos h']; exact pk_m1 _
    · have h' : ¬ (bq_mem x c k && decide (¬ D k = 0)) = true := h
      rw [if_neg h, if_neg h']; rfl
  · have e1 := bx_cd x D (fun z => !decide (¬ z = 0)) k m c hk
    have e2 : (!decide (¬ D k = 0)) = decide (D k = 0) := by
      by_cases z : D k = 0
      · rw [decide_eq_true z, decide_eq_false (fun w : ¬ D k = 0 => w z)]; rfl
      · rw [decide_eq_false z, decide_eq_true z]; rfl
    rw [e2] at e1
    rw [bx_selc B (x k) (-1) (D k = 0) hc, hB c hc]
    have e3 : bq_cnt (fun i => bq_mem x c i && !bs_g D i) (m + 1) = _ := e1.symm
    rw [e3]
    by_cases h : (decide ((x k &&& (c / 64)) = c % 64) && decide (D k = 0)) = true
    · have h' : (bq_mem x c k && decide (D k = 0)) = true := h
      rw [if_pos h, if_pos h']; exact pk_m1 _
    · have h' : ¬ (bq_mem x c k && decide (D k = 0)) = true := h
      rw [if_neg h, if_neg h']; rfl
theorem bx_cnt0 (p : Nat → Bool) : bq_cnt p 0 = 0 := rfl
