/-! a strict weak order on the numbers below n: L m k says that m stands above k -/
def cd_Ord (n : Nat) (L : Nat → Nat → Bool) : Prop :=
  (∀ i, i < n → L i i = false) ∧
  (∀ i j k, i < n → j < n → k < n → L i j = true → L j k = true → L i k = true) ∧
  (∀ i j k, i < n → j < n → k < n → i ≠ j → L i j = false → L j i = false → L i k = true → L j k = true) ∧
  (∀ i j k, i < n → j < n → k < n → i ≠ j → L i j = false → L j i = false → L k i = true → L k j = true)
def cd_inc (L : Nat → Nat → Bool) (m k : Nat) : Bool := !L m k && !L k m
def cd_bef (L : Nat → Nat → Bool) (T : Nat → Bool) (k : Nat) : Nat := cd_cn (fun m => T m && cd_inc L m k) k
def cd_F (L : Nat → Nat → Bool) (T : Nat → Bool) (n : Nat) : Nat := cd_pd (fun k => cond (T k) (1 + cd_bef L T k) 1) n
def cd_low (L : Nat → Nat → Bool) (n : Nat) (T : Nat → Bool) (k : Nat) : Bool := T k && decide (∀ j, j < n → T j = true → L k j = false)
def cd_cl (L : Nat → Nat → Bool) (n : Nat) (T : Nat → Bool) : Bool := decide (∀ k, k < n → T k = true → ∀ m, m < n → L m k = true → T m = true)
theorem cd_tf {b : Bool} (h : b = false) (h' : b = true) : False := by rw [h] at h'; exact Bool.noConfusion h'
theorem cd_nt {b : Bool} (h : ¬ b = true) : b = false := by cases b with
  | false => rfl
  | true => exact absurd rfl h
theorem cd_inc_iff {L : Nat → Nat → Bool} {m k : Nat} : cd_inc L m k = true ↔ L m k = false ∧ L k m = false := by
  unfold cd_inc
  cases L m k <;> cases L k m <;> decide
theorem cd_inc_sym (L : Nat → Nat → Bool) (m k : Nat) : cd_inc L m k = cd_inc L k m := by
  unfold cd_inc
  exact Bool.and_comm _ _
theorem cd_low_iff {L : Nat → Nat → Bool} {n : Nat} {T : Nat → Bool} {k : Nat} : cd_low L n T k = true ↔ T k = true ∧ ∀ j, j < n → T j = true → L k j = false := by
  unfold cd_low
  rw [Bool.and_eq_true, decide_eq_true_eq]
theorem cd_cl_iff {L : Nat → Nat → Bool} {n : Nat} {T : Nat → Bool} : cd_cl L n T = true ↔ ∀ k, k < n → T k = true → ∀ m, m < n → L m k = true → T m = true := by
  unfold cd_cl
  rw [decide_eq_true_eq]
theorem cd_low_ex {n : Nat} {L : Nat → Nat → Bool} (O : cd_Ord n L) (T : Nat → Bool) : ∀ m, m ≤ n → (∀ i, i < m → T i = false) ∨ ∃ k, k < m ∧ T k = true ∧ ∀ j, j < m → T j = true → L k j = false := by
  intro m
  induction m with
  | zero => exact fun _ => Or.inl (fun i hi => absurd hi (Nat.not_lt_zero i))
  | succ m ih =>
    intro hm
    by_cases ht : T m = true
    · rcases ih (by omega) with h | ⟨k, hk, hT, hL⟩
      · refine Or.inr ⟨m, by omega, ht, fun j hj hjt => ?_⟩
        rcases Nat.lt_or_ge j m with hl | hl
        · exact (cd_tf (h j hl) hjt).elim
        · have e : j = m := by omega
          rw [e]
          exact O.1 m (by omega)
      · by_cases hkm : L k m = true
        · refine Or.inr ⟨m, by omega, ht, fun j hj hjt => ?_⟩
          rcases Nat.lt_or_ge j m with hl | hl
          · exact cd_nt (fun e => cd_tf (hL j hl hjt) (O.2.1 k m j (by omega) (by omega) (by omega) hkm e))
          · have e : j = m := by omega
            rw [e]
            exact O.1 m (by omega)
        · refine Or.inr ⟨k, by omega, hT, fun j hj hjt => ?_⟩
          rcases Nat.lt_or_ge j m with hl | hl
          · exact hL j hl hjt
          · have e : j = m := by omega
            rw [e]
            exact cd_nt hkm
    · rcases ih (by omega) with h | ⟨k, hk, hT, hL⟩
      · refine Or.inl (fun i hi => ?_)
        rcases Nat.lt_or_ge i m with hl | hl
        · exact h i hl
        · have e : i = m := by omega
          rw [e]
          exact cd_nt ht
      · refine Or.inr ⟨k, by omega, hT, fun j hj hjt => ?_⟩
        rcases Nat.lt_or_ge j m with hl | hl
        · exact hL j hl hjt
        · have e : j = m := by omega
          rw [e] at hjt
          exact absurd hjt ht
theorem cd_low_m {n : Nat} {L : Nat → Nat → Bool} (O : cd_Ord n L) {T : Nat → Bool} {k m : Nat} (hk : k < n) (hm : m < n) (hne : m ≠ k) (h : cd_low L n T k = true) : (T m && cd_inc L m k) = cd_low L n T m := by
  obtain ⟨hT, hL⟩ := cd_low_iff.mp h
  apply Bool.eq_iff_iff.mpr
  rw [Bool.and_eq_true, cd_inc_iff, cd_low_iff]
  constructor
  · rintro ⟨h1, h2, h3⟩
    refine ⟨h1, fun j hj hjt => cd_nt (fun e => ?_)⟩
    exact cd_tf (hL j hj hjt) (O.2.2.1 m k j hm hk hj hne h2 h3 e)
  · rintro ⟨h1, h2⟩
    exact ⟨h1, h2 k hk hT, hL m hm h1⟩
def cd_G (L : Nat → Nat → Bool) (n : Nat) (T : Nat → Bool) : Nat := cd_pd (fun k => cond (T k && !cd_low L n T k) (1 + cd_bef L T k) 1) n
theorem cd_low_T {L : Nat → Nat → Bool} {n : Nat} {T : Nat → Bool} {k : Nat} (h : T k = false) : cd_low L n T k = false := by
  unfold cd_low
  rw [h]
  try rfl
theorem cd_F_T {n : Nat} {L : Nat → Nat → Bool} (O : cd_Ord n L) (T : Nat → Bool) : cd_F L T n = cd_fac (cd_cn (cd_low L n T) n) * cd_G L n T := by
  unfold cd_F cd_G
  rw [← cd_pd_fac, cd_pd_mul]
  apply cd_pd_c
  intro k hk
  try dsimp only
  cases hT : T k with
  | false =>
    rw [cd_low_T hT]
    try rfl
  | true =>
    cases hl : cd_low L n T k with
    | false => exact (Nat.one_mul _).symm
    | true =>
      have e : cd_bef L T k = cd_cn (cd_low L n T) k := cd_cn_c (fun m hm => cd_low_m O hk (by omega) (by omega) hl)
      rw [e]
      exact (Nat.mul_one _).symm
theorem cd_F_T' {n : Nat} {L : Nat → Nat → Bool} (O : cd_Ord n L) {T T' : Nat → Bool} {k0 : Nat} (hk0 : k0 < n) (hl0 : cd_low L n T k0 = true) (hT' : ∀ i, i < n → T' i = (T i && !decide (i = k0))) :
    cd_F L T' n = cd_fac (cd_cn (fun i => cd_low L n T i && !decide (i = k0)) n) * cd_G L n T := by
  unfold cd_F cd_G
  rw [← cd_pd_fac, cd_pd_mul]
  apply cd_pd_c
  intro k hk
  try dsimp only
  by_cases hkk : k = k0
  · have e1 : T' k = false := by rw [hT' k hk, hkk]; simp
    have e2 : (cd_low L n T k && !decide (k = k0)) = false := by rw [hkk]; simp
    have e3 : (T k && !cd_low L n T k) = false := by rw [hkk, hl0]; simp
    rw [e1, e2, e3]
    try rfl
  · have e1 : T' k = T k := by rw [hT' k hk, decide_eq_false hkk, Bool.not_false, Bool.and_true]
    rw [e1, decide_eq_false hkk, Bool.not_false, Bool.and_true]
    cases hT : T k with
    | false =>
      rw [cd_low_T hT]
      try rfl
    | true =>
      cases hl : cd_low L n T k with
      | false =>
        have e2 : cd_bef L T' k = cd_bef L T k := cd_cn_c (fun m hm => by
          show (T' m && cd_inc L m k) = (T m && cd_inc L m k)
          rw [hT' m (by omega)]
          by_cases hmk : m = k0
          · have e3 := cd_low_m O hk0 hk hkk hl0
            rw [hT, hl, Bool.true_and, cd_inc_sym, ← hmk] at e3
            rw [e3, Bool.and_false, Bool.and_false]
          · rw [decide_eq_false hmk, Bool.not_false, Bool.and_true])
        rw [e2]
        exact (Nat.one_mul _).symm
      | true =>
        have e2 : cd_bef L T' k = cd_cn (fun i => cd_low L n T i && !decide (i = k0)) k := cd_cn_c (fun m hm => by
          show (T' m && cd_inc L m k) = (cd_low L n T m && !decide (m = k0))
          rw [hT' m (by omega), ← cd_low_m O hk (by omega) (by omega) hl, Bool.and_assoc, Bool.and_assoc, Bool.and_comm (!decide (m = k0))])
        rw [e2]
        exact (Nat.mul_one _).symm
theorem cd_F_sum {n : Nat} {L : Nat → Nat → Bool} (O : cd_Ord n L) (T : Nat → Bool) {i0 : Nat} (h0 : i0 < n) (hT0 : T i0 = true) :
    cd_sm (fun k => cond (cd_low L n T k) (cd_F L (fun i => T i && !decide (i = k)) n) 0) n = cd_F L T n := by
  have hp : 1 ≤ cd_cn (cd_low L n T) n := by
    rcases cd_low_ex O T n (Nat.le_refl n) with h | ⟨k, hk, hT, hL⟩
    · exact (cd_tf (h i0 h0) hT0).elim
    · exact cd_cn_pos hk (cd_low_iff.mpr ⟨hT, hL⟩)
  obtain ⟨q, hq⟩ : ∃ q, cd_cn (cd_low L n T) n = q + 1 := ⟨cd_cn (cd_low L n T) n - 1, by omega⟩
  have e : cd_sm (fun k => cond (cd_low L n T k) (cd_F L (fun i => T i && !decide (i = k)) n) 0) n = cd_sm (fun k => cond (cd_low L n T k) (cd_fac q * cd_G L n T) 0) n := by
    apply cd_sm_c
    intro k hk
    try dsimp only
    cases hl : cd_low L n T k with
    | false => rfl
    | true =>
      have e1 := cd_F_T' O (T' := fun i => T i && !decide (i = k)) hk hl (fun _ _ => rfl)
      have e2 := cd_cn_rm (M' := fun i => cd_low L n T i && !decide (i = k)) hk hl (fun _ _ => rfl)
      have e3 : cd_cn (fun i => cd_low L n T i && !decide (i = k)) n = q := by omega
      show cd_F L (fun i => T i && !decide (i = k)) n = cd_fac q * cd_G L n T
      rw [e1, e3]
  rw [e, cd_sm_cn, cd_F_T O T, hq]
  show (q + 1) * (cd_fac q * cd_G L n T) = cd_fac q * (q + 1) * cd_G L n T
  rw [← Nat.mul_assoc, Nat.mul_comm (q + 1)]
theorem cd_bef_c {L : Nat → Nat → Bool} {T T' : Nat → Bool} {k : Nat} (h : ∀ i, i < k → T i = T' i) : cd_bef L T k = cd_bef L T' k := by
  apply cd_cn_c
  intro i hi
  try dsimp only
  rw [h i hi]
theorem cd_F_c {L : Nat → Nat → Bool} {T T' : Nat → Bool} {n : Nat} (h : ∀ i, i < n → T i = T' i) : cd_F L T n = cd_F L T' n := by
  apply cd_pd_c
  intro i hi
  try dsimp only
  rw [h i hi, cd_bef_c (fun j hj => h j (by omega))]
theorem cd_F_pos (L : Nat → Nat → Bool) (T : Nat → Bool) (n : Nat) : 1 ≤ cd_F L T n := by
  apply cd_pd_pos
  intro i _
  cases T i with
  | false => exact Nat.le_refl 1
  | true => exact Nat.le_add_right 1 _
theorem cd_F_full (L : Nat → Nat → Bool) (T : Nat → Bool) (n : Nat) : cd_F L T n ≤ cd_F L (fun _ => true) n := by
  apply cd_pd_le
  intro i _
  have h : cd_bef L T i ≤ cd_bef L (fun _ => true) i := by
    apply cd_cn_imp
    intro j _ hj
    rw [Bool.and_eq_true] at hj
    try dsimp only
    rw [Bool.true_and]
    exact hj.2
  try dsimp only
  cases T i with
  | false => exact Nat.le_add_right 1 _
  | true => exact Nat.add_le_add_left h 1
