section
/-! counts, sums and products over the naturals below a bound; nothing of the program stands here -/
def cd_cn (p : Nat → Bool) : Nat → Nat
  | 0 => 0
  | n + 1 => cd_cn p n + (p n).toNat
def cd_sm (f : Nat → Nat) : Nat → Nat
  | 0 => 0
  | n + 1 => cd_sm f n + f n
def cd_pd (f : Nat → Nat) : Nat → Nat
  | 0 => 1
  | n + 1 => cd_pd f n * f n
def cd_fac : Nat → Nat
  | 0 => 1
  | n + 1 => cd_fac n * (n + 1)
theorem cd_cn_s (p : Nat → Bool) (n : Nat) : cd_cn p (n + 1) = cd_cn p n + (p n).toNat := rfl
theorem cd_sm_s (f : Nat → Nat) (n : Nat) : cd_sm f (n + 1) = cd_sm f n + f n := rfl
theorem cd_pd_s (f : Nat → Nat) (n : Nat) : cd_pd f (n + 1) = cd_pd f n * f n := rfl
theorem cd_cn_c {p q : Nat → Bool} {n : Nat} (h : ∀ i, i < n → p i = q i) : cd_cn p n = cd_cn q n := by
  induction n with
  | zero => rfl
  | succ n ih => rw [cd_cn_s, cd_cn_s, ih (fun i hi => h i (by omega)), h n (by omega)]
theorem cd_sm_c {f g : Nat → Nat} {n : Nat} (h : ∀ i, i < n → f i = g i) : cd_sm f n = cd_sm g n := by
  induction n with
  | zero => rfl
  | succ n ih => rw [cd_sm_s, cd_sm_s, ih (fun i hi => h i (by omega)), h n (by omega)]
theorem cd_pd_c {f g : Nat → Nat} {n : Nat} (h : ∀ i, i < n → f i = g i) : cd_pd f n = cd_pd g n := by
  induction n with
  | zero => rfl
  | succ n ih => rw [cd_pd_s, cd_pd_s, ih (fun i hi => h i (by omega)), h n (by omega)]
theorem cd_b_1 (b : Bool) : b.toNat ≤ 1 := by cases b <;> decide
theorem cd_cn_le (p : Nat → Bool) (n : Nat) : cd_cn p n ≤ n := by
  induction n with
  | zero => exact Nat.le_refl 0
  | succ n ih => rw [cd_cn_s]; have := cd_b_1 (p n); omega
theorem cd_cn_0 (n : Nat) : cd_cn (fun _ => false) n = 0 := by
  induction n with
  | zero => rfl
  | succ n ih => rw [cd_cn_s, ih]; try rfl
theorem cd_cn_f {p : Nat → Bool} {n : Nat} (h : ∀ i, i < n → p i = false) : cd_cn p n = 0 := by
  rw [cd_cn_c (q := fun _ => false) h, cd_cn_0]
theorem cd_sm_0 {f : Nat → Nat} {n : Nat} (h : ∀ i, i < n → f i = 0) : cd_sm f n = 0 := by
  induction n with
  | zero => rfl
  | succ n ih => rw [cd_sm_s, ih (fun i hi => h i (by omega)), h n (by omega)]
theorem cd_cn_add (p : Nat → Bool) (a b : Nat) : cd_cn p (a + b) = cd_cn p a + cd_cn (fun i => p (a + i)) b := by
  induction b with
  | zero => rfl
  | succ b ih =>
    have e : cd_cn p (a + (b + 1)) = cd_cn p (a + b) + (p (a + b)).toNat := rfl
    rw [e, ih, cd_cn_s, Nat.add_assoc]
theorem cd_cn_mono (p : Nat → Bool) {a b : Nat} (h : a ≤ b) : cd_cn p a ≤ cd_cn p b := by
  obtain ⟨c, rfl⟩ : ∃ c, b = a + c := ⟨b - a, by omega⟩
  rw [cd_cn_add]
  omega
theorem cd_cn_imp {p q : Nat → Bool} {n : Nat} (h : ∀ i, i < n → p i = true → q i = true) : cd_cn p n ≤ cd_cn q n := by
  induction n with
  | zero => exact Nat.le_refl 0
  | succ n ih =>
    rw [cd_cn_s, cd_cn_s]
    have i1 := ih (fun i hi => h i (by omega))
    have i2 := h n (by omega)
    cases hp : p n with
    | false =>
      have : (false).toNat = 0 := rfl
      omega
    | true =>
      rw [i2 hp]
      omega
theorem cd_b_io (a b : Bool) : a.toNat + b.toNat = (a || b).toNat + (a && b).toNat := by cases a <;> cases b <;> rfl
theorem cd_cn_io (p q : Nat → Bool) (n : Nat) : cd_cn p n + cd_cn q n = cd_cn (fun i => p i || q i) n + cd_cn (fun i => p i && q i) n := by
  induction n with
  | zero => rfl
  | succ n ih =>
    rw [cd_cn_s, cd_cn_s, cd_cn_s, cd_cn_s]
    have := cd_b_io (p n) (q n)
    omega
theorem cd_cn_and (p : Nat → Bool) (b : Bool) (n : Nat) : cd_cn (fun i => p i && b) n = cond b (cd_cn p n) 0 := by
  cases b with
  | false => exact cd_cn_f (fun i _ => Bool.and_false _)
  | true => exact cd_cn_c (fun i _ => Bool.and_true _)
theorem cd_cn_rm {M M' : Nat → Bool} {k n : Nat} (hk : k < n) (hM : M k = true) (h : ∀ i, i < n → M' i = (M i && !decide (i = k))) : cd_cn M' n + 1 = cd_cn M n := by
  induction n with
  | zero => omega
  | succ n ih =>
    rw [cd_cn_s, cd_cn_s]
    rcases Nat.lt_or_ge k n with hl | hl
    · have e1 := ih hl (fun i hi => h i (by omega))
      have e2 : M' n = M n := by
        rw [h n (by omega), decide_eq_false (by omega), Bool.not_false, Bool.and_true]
      rw [e2]
      omega
    · have ek : k = n := by omega
      have e1 : cd_cn M' n = cd_cn M n := cd_cn_c (fun i hi => by
        rw [h i (by omega), decide_eq_false (by omega), Bool.not_false, Bool.and_true])
      have e2 : M' n = false := by
        rw [h n (by omega), decide_eq_true ek.symm, Bool.not_true, Bool.and_false]
      have e3 : M n = true := by rw [← ek]; exact hM
      rw [e1, e2, e3]
      try rfl
theorem cd_cn_pos {M : Nat → Bool} {k n : Nat} (hk : k < n) (hM : M k = true) : 1 ≤ cd_cn M n := by
  have := cd_cn_rm (M' := fun i => M i && !decide (i = k)) hk hM (fun _ _ => rfl)
  omega
theorem cd_cn_ex {p : Nat → Bool} {n k : Nat} (h : k < cd_cn p n) : ∃ s, s < n ∧ p s = true ∧ cd_cn p s = k := by
  induction n with
  | zero => exact absurd h (Nat.not_lt_zero k)
  | succ n ih =>
    rw [cd_cn_s] at h
    rcases Nat.lt_or_ge k (cd_cn p n) with hl | hl
    · obtain ⟨s, h1, h2, h3⟩ := ih hl
      exact ⟨s, by omega, h2, h3⟩
    · cases hp : p n with
      | false =>
        rw [hp] at h
        have : (false).toNat = 0 := rfl
        omega
      | true =>
        rw [hp] at h
        have : (true).toNat = 1 := rfl
        exact ⟨n, by omega, hp, by omega⟩
theorem cd_cn_lt {p : Nat → Bool} {s t : Nat} (h : s < t) (hp : p s = true) : cd_cn p s < cd_cn p t := by
  have h1 := cd_cn_mono p (a := s + 1) (b := t) (by omega)
  rw [cd_cn_s, hp] at h1
  have : (true).toNat = 1 := rfl
  omega
theorem cd_cn_inj {p : Nat → Bool} {s t : Nat} (hs : p s = true) (ht : p t = true) (h : cd_cn p s = cd_cn p t) : s = t := by
  rcases Nat.lt_trichotomy s t with hl | hl | hl
  · have := cd_cn_lt hl hs
    omega
  · exact hl
  · have := cd_cn_lt hl ht
    omega
theorem cd_pd_mul (f g : Nat → Nat) (n : Nat) : cd_pd f n * cd_pd g n = cd_pd (fun k => f k * g k) n := by
  induction n with
  | zero => rfl
  | succ n ih => rw [cd_pd_s, cd_pd_s, cd_pd_s, ← ih, Nat.mul_mul_mul_comm]
theorem cd_pd_fac (M : Nat → Bool) (n : Nat) : cd_pd (fun k => cond (M k) (1 + cd_cn M k) 1) n = cd_fac (cd_cn M n) := by
  induction n with
  | zero => rfl
  | succ n ih =>
    rw [cd_pd_s, ih, cd_cn_s]
    cases M n with
    | false => exact Nat.mul_one _
    | true =>
      show cd_fac (cd_cn M n) * (1 + cd_cn M n) = cd_fac (cd_cn M n) * (cd_cn M n + 1)
      rw [Nat.add_comm 1]
theorem cd_pd_le {f g : Nat → Nat} {n : Nat} (h : ∀ i, i < n → f i ≤ g i) : cd_pd f n ≤ cd_pd g n := by
  induction n with
  | zero => exact Nat.le_refl 1
  | succ n ih =>
    rw [cd_pd_s, cd_pd_s]
    exact Nat.mul_le_mul (ih (fun i hi => h i (by omega))) (h n (by omega))
theorem cd_pd_pos {f : Nat → Nat} {n : Nat} (h : ∀ i, i < n → 1 ≤ f i) : 1 ≤ cd_pd f n := by
  induction n with
  | zero => exact Nat.le_refl 1
  | succ n ih =>
    rw [cd_pd_s]
    exact Nat.mul_pos (ih (fun i hi => h i (by omega))) (h n (by omega))
theorem cd_sm_add (f g : Nat → Nat) (n : Nat) : cd_sm f n + cd_sm g n = cd_sm (fun k => f k + g k) n := by
  induction n with
  | zero => rfl
  | succ n ih =>
    rw [cd_sm_s, cd_sm_s, cd_sm_s, ← ih]
    omega
theorem cd_sm_cn (M : Nat → Bool) (c n : Nat) : cd_sm (fun k => cond (M k) c 0) n = cd_cn M n * c := by
  induction n with
  | zero => exact (Nat.zero_mul c).symm
  | succ n ih =>
    rw [cd_sm_s, ih, cd_cn_s, Nat.add_mul]
    cases M n with
    | false => exact congrArg _ (Nat.zero_mul c).symm
    | true => exact congrArg _ (Nat.one_mul c).symm
/-! sums over the marked places are sums over their ranks -/
theorem cd_tr_cn (p q : Nat → Bool) (n : Nat) : cd_cn (fun s => p s && q (cd_cn p s)) n = cd_cn q (cd_cn p n) := by
  induction n with
  | zero => rfl
  | succ n ih =>
    rw [cd_cn_s, ih, cd_cn_s]
    cases p n with
    | false => rfl
    | true => rfl
theorem cd_tr_sm (p : Nat → Bool) (g : Nat → Nat) (n : Nat) : cd_sm (fun s => cond (p s) (g (cd_cn p s)) 0) n = cd_sm g (cd_cn p n) := by
  induction n with
  | zero => rfl
  | succ n ih =>
    rw [cd_sm_s, ih, cd_cn_s]
    cases p n with
    | false => rfl
    | true => rfl
theorem cd_tr_pd (p : Nat → Bool) (g : Nat → Nat) (n : Nat) : cd_pd (fun s => cond (p s) (g (cd_cn p s)) 1) n = cd_pd g (cd_cn p n) := by
  induction n with
  | zero => rfl
  | succ n ih =>
    rw [cd_pd_s, ih, cd_cn_s]
    cases p n with
    | false => exact Nat.mul_one _
    | true => rfl
end
section
/-! a strict weak order on the numbers below n: L m k says that m stands above k -/
def cd_Ord (n : Nat) (L : Nat → Nat → Bool) : Prop :=
  (∀ i, i < n → L i i = false) ∧
  (∀ i j k, i < n → j < n → k < n → L i j = true → L j k = true → L i k = true) ∧
  (∀ i j k, i < n → j < n → k < n → i ≠ j → L i j = false → L j i = false → L i k = true → L j k = true) ∧
  (∀ i j k, i < n → j < n → k < n → i ≠ j → L i j = false → L j i = false → L k i = true → L k j = true)
def cd_inc (L : Nat → Nat → Bool) (m k : Nat) : Bool := !L m k && !L k m
def cd_bef (L : Nat → Nat → Bool) (T : Nat → Bool) (k : Nat) : Nat := cd_cn (fun m => T m && cd_inc L m k) k
def cd_F (L : Nat → Nat → Bool) (T : Nat → Bool) (n : Nat) : Nat := cd_pd (fun k => cond (T k) (1 + cd_bef L T k) 1) n
def cd_low (L : Nat → Nat → Bool) (n : Nat) (T : Nat → Bool) (k : Nat) : Bool := T k && decide (∀ j, j < n → T j = true → L k j = false)
def cd_cl (L : Nat → Nat → Bool) (n : Nat) (T : Nat → Bool) : Bool := decide (∀ k, k < n → T k = true → ∀ m, m < n → L m k = true → T m = true)
theorem cd_tf {b : Bool} (h : b = false) (h' : b = true) : False := by rw [h] at h'; exact Bool.noConfusion h'
theorem cd_nt {b : Bool} (h : ¬ b = true) : b = false := by cases b with
  | false => rfl
  | true => exact absurd rfl h
theorem cd_inc_iff {L : Nat → Nat → Bool} {m k : Nat} : cd_inc L m k = true ↔ L m k = false ∧ L k m = false := by
  unfold cd_inc
  cases L m k <;> cases L k m <;> decide
theorem cd_inc_sym (L : Nat → Nat → Bool) (m k : Nat) : cd_inc L m k = cd_inc L k m := by
  unfold cd_inc
  exact Bool.and_comm _ _
theorem cd_low_iff {L : Nat → Nat → Bool} {n : Nat} {T : Nat → Bool} {k : Nat} : cd_low L n T k = true ↔ T k = true ∧ ∀ j, j < n → T j = true → L k j = false := by
  unfold cd_low
  rw [Bool.and_eq_true, decide_eq_true_eq]
theorem cd_cl_iff {L : Nat → Nat → Bool} {n : Nat} {T : Nat → Bool} : cd_cl L n T = true ↔ ∀ k, k < n → T k = true → ∀ m, m < n → L m k = true → T m = true := by
  unfold cd_cl
  rw [decide_eq_true_eq]
theorem cd_low_ex {n : Nat} {L : Nat → Nat → Bool} (O : cd_Ord n L) (T : Nat → Bool) : ∀ m, m ≤ n → (∀ i, i < m → T i = false) ∨ ∃ k, k < m ∧ T k = true ∧ ∀ j, j < m → T j = true → L k j = false := by
  intro m
  induction m with
  | zero => exact fun _ => Or.inl (fun i hi => absurd hi (Nat.not_lt_zero i))
  | succ m ih =>
    intro hm
    by_cases ht : T m = true
    · rcases ih (by omega) with h | ⟨k, hk, hT, hL⟩
      · refine Or.inr ⟨m, by omega, ht, fun j hj hjt => ?_⟩
        rcases Nat.lt_or_ge j m with hl | hl
        · exact (cd_tf (h j hl) hjt).elim
        · have e : j = m := by omega
          rw [e]
          exact O.1 m (by omega)
      · by_cases hkm : L k m = true
        · refine Or.inr ⟨m, by omega, ht, fun j hj hjt => ?_⟩
          rcases Nat.lt_or_ge j m with hl | hl
          · exact cd_nt (fun e => cd_tf (hL j hl hjt) (O.2.1 k m j (by omega) (by omega) (by omega) hkm e))
          · have e : j = m := by omega
            rw [e]
            exact O.1 m (by omega)
        · refine Or.inr ⟨k, by omega, hT, fun j hj hjt => ?_⟩
          rcases Nat.lt_or_ge j m with hl | hl
          · exact hL j hl hjt
          · have e : j = m := by omega
            rw [e]
            exact cd_nt hkm
    · rcases ih (by omega) with h | ⟨k, hk, hT, hL⟩
      · refine Or.inl (fun i hi => ?_)
        rcases Nat.lt_or_ge i m with hl | hl
        · exact h i hl
        · have e : i = m := by omega
          rw [e]
          exact cd_nt ht
      · refine Or.inr ⟨k, by omega, hT, fun j hj hjt => ?_⟩
        rcases Nat.lt_or_ge j m with hl | hl
        · exact hL j hl hjt
        · have e : j = m := by omega
          rw [e] at hjt
          exact absurd hjt ht
theorem cd_low_m {n : Nat} {L : Nat → Nat → Bool} (O : cd_Ord n L) {T : Nat → Bool} {k m : Nat} (hk : k < n) (hm : m < n) (hne : m ≠ k) (h : cd_low L n T k = true) : (T m && cd_inc L m k) = cd_low L n T m := by
  obtain ⟨hT, hL⟩ := cd_low_iff.mp h
  apply Bool.eq_iff_iff.mpr
  rw [Bool.and_eq_true, cd_inc_iff, cd_low_iff]
  constructor
  · rintro ⟨h1, h2, h3⟩
    refine ⟨h1, fun j hj hjt => cd_nt (fun e => ?_)⟩
    exact cd_tf (hL j hj hjt) (O.2.2.1 m k j hm hk hj hne h2 h3 e)
  · rintro ⟨h1, h2⟩
    exact ⟨h1, h2 k hk hT, hL m hm h1⟩
def cd_G (L : Nat → Nat → Bool) (n : Nat) (T : Nat → Bool) : Nat := cd_pd (fun k => cond (T k && !cd_low L n T k) (1 + cd_bef L T k) 1) n
theorem cd_low_T {L : Nat → Nat → Bool} {n : Nat} {T : Nat → Bool} {k : Nat} (h : T k = false) : cd_low L n T k = false := by
  unfold cd_low
  rw [h]
  try rfl
theorem cd_F_T {n : Nat} {L : Nat → Nat → Bool} (O : cd_Ord n L) (T : Nat → Bool) : cd_F L T n = cd_fac (cd_cn (cd_low L n T) n) * cd_G L n T := by
  unfold cd_F cd_G
  rw [← cd_pd_fac, cd_pd_mul]
  apply cd_pd_c
  intro k hk
  try dsimp only
  cases hT : T k with
  | false =>
    rw [cd_low_T hT]
    try rfl
  | true =>
    cases hl : cd_low L n T k with
    | false => exact (Nat.one_mul _).symm
    | true =>
      have e : cd_bef L T k = cd_cn (cd_low L n T) k := cd_cn_c (fun m hm => cd_low_m O hk (by omega) (by omega) hl)
      rw [e]
      exact (Nat.mul_one _).symm
theorem cd_F_T' {n : Nat} {L : Nat → Nat → Bool} (O : cd_Ord n L) {T T' : Nat → Bool} {k0 : Nat} (hk0 : k0 < n) (hl0 : cd_low L n T k0 = true) (hT' : ∀ i, i < n → T' i = (T i && !decide (i = k0))) :
    cd_F L T' n = cd_fac (cd_cn (fun i => cd_low L n T i && !decide (i = k0)) n) * cd_G L n T := by
  unfold cd_F cd_G
  rw [← cd_pd_fac, cd_pd_mul]
  apply cd_pd_c
  intro k hk
  try dsimp only
  by_cases hkk : k = k0
  · have e1 : T' k = false := by rw [hT' k hk, hkk]; simp
    have e2 : (cd_low L n T k && !decide (k = k0)) = false := by rw [hkk]; simp
    have e3 : (T k && !cd_low L n T k) = false := by rw [hkk, hl0]; simp
    rw [e1, e2, e3]
    try rfl
  · have e1 : T' k = T k := by rw [hT' k hk, decide_eq_false hkk, Bool.not_false, Bool.and_true]
    rw [e1, decide_eq_false hkk, Bool.not_false, Bool.and_true]
    cases hT : T k with
    | false =>
      rw [cd_low_T hT]
      try rfl
    | true =>
      cases hl : cd_low L n T k with
      | false =>
        have e2 : cd_bef L T' k = cd_bef L T k := cd_cn_c (fun m hm => by
          show (T' m && cd_inc L m k) = (T m && cd_inc L m k)
          rw [hT' m (by omega)]
          by_cases hmk : m = k0
          · have e3 := cd_low_m O hk0 hk hkk hl0
            rw [hT, hl, Bool.true_and, cd_inc_sym, ← hmk] at e3
            rw [e3, Bool.and_false, Bool.and_false]
          · rw [decide_eq_false hmk, Bool.not_false, Bool.and_true])
        rw [e2]
        exact (Nat.one_mul _).symm
      | true =>
        have e2 : cd_bef L T' k = cd_cn (fun i => cd_low L n T i && !decide (i = k0)) k := cd_cn_c (fun m hm => by
          show (T' m && cd_inc L m k) = (cd_low L n T m && !decide (m = k0))
          rw [hT' m (by omega), ← cd_low_m O hk (by omega) (by omega) hl, Bool.and_assoc, Bool.and_assoc, Bool.and_comm (!decide (m = k0))])
        rw [e2]
        exact (Nat.mul_one _).symm
theorem cd_F_sum {n : Nat} {L : Nat → Nat → Bool} (O : cd_Ord n L) (T : Nat → Bool) {i0 : Nat} (h0 : i0 < n) (hT0 : T i0 = true) :
    cd_sm (fun k => cond (cd_low L n T k) (cd_F L (fun i => T i && !decide (i = k)) n) 0) n = cd_F L T n := by
  have hp : 1 ≤ cd_cn (cd_low L n T) n := by
    rcases cd_low_ex O T n (Nat.le_refl n) with h | ⟨k, hk, hT, hL⟩
    · exact (cd_tf (h i0 h0) hT0).elim
    · exact cd_cn_pos hk (cd_low_iff.mpr ⟨hT, hL⟩)
  obtain ⟨q, hq⟩ : ∃ q, cd_cn (cd_low L n T) n = q + 1 := ⟨cd_cn (cd_low L n T) n - 1, by omega⟩
  have e : cd_sm (fun k => cond (cd_low L n T k) (cd_F L (fun i => T i && !decide (i = k)) n) 0) n = cd_sm (fun k => cond (cd_low L n T k) (cd_fac q * cd_G L n T) 0) n := by
    apply cd_sm_c
    intro k hk
    try dsimp only
    cases hl : cd_low L n T k with
    | false => rfl
    | true =>
      have e1 := cd_F_T' O (T' := fun i => T i && !decide (i = k)) hk hl (fun _ _ => rfl)
      have e2 := cd_cn_rm (M' := fun i => cd_low L n T i && !decide (i = k)) hk hl (fun _ _ => rfl)
      have e3 : cd_cn (fun i => cd_low L n T i && !decide (i = k)) n = q := by omega
      show cd_F L (fun i => T i && !decide (i = k)) n = cd_fac q * cd_G L n T
      rw [e1, e3]
  rw [e, cd_sm_cn, cd_F_T O T, hq]
  show (q + 1) * (cd_fac q * cd_G L n T) = cd_fac q * (q + 1) * cd_G L n T
  rw [← Nat.mul_assoc, Nat.mul_comm (q + 1)]
theorem cd_bef_c {L : Nat → Nat → Bool} {T T' : Nat → Bool} {k : Nat} (h : ∀ i, i < k → T i = T' i) : cd_bef L T k = cd_bef L T' k := by
  apply cd_cn_c
  intro i hi
  try dsimp only
  rw [h i hi]
theorem cd_F_c {L : Nat → Nat → Bool} {T T' : Nat → Bool} {n : Nat} (h : ∀ i, i < n → T i = T' i) : cd_F L T n = cd_F L T' n := by
  apply cd_pd_c
  intro i hi
  try dsimp only
  rw [h i hi, cd_bef_c (fun j hj => h j (by omega))]
theorem cd_F_pos (L : Nat → Nat → Bool) (T : Nat → Bool) (n : Nat) : 1 ≤ cd_F L T n := by
  apply cd_pd_pos
  intro i _
  cases T i with
  | false => exact Nat.le_refl 1
  | true => exact Nat.le_add_right 1 _
theorem cd_F_full (L : Nat → Nat → Bool) (T : Nat → Bool) (n : Nat) : cd_F L T n ≤ cd_F L (fun _ => true) n := by
  apply cd_pd_le
  intro i _
  have h : cd_bef L T i ≤ cd_bef L (fun _ => true) i := by
    apply cd_cn_imp
    intro j _ hj
    rw [Bool.and_eq_true] at hj
    try dsimp only
    rw [Bool.true_and]
    exact hj.2
  try dsimp only
  cases T i with
  | false => exact Nat.le_add_right 1 _
  | true => exact Nat.add_le_add_left h 1
end
section
/-! how many sets below 2^n are closed upwards -/
theorem cd_free (fr v : Nat → Bool) : ∀ m, cd_cn (fun S => decide (∀ i, i < m → fr i = false → S.testBit i = v i)) (2 ^ m) = 2 ^ (cd_cn fr m) := by
  intro m
  induction m with
  | zero =>
    rw [show (2 : Nat) ^ 0 = 0 + 1 from rfl, cd_cn_s, decide_eq_true (fun i hi => absurd hi (Nat.not_lt_zero i))]
    rfl
  | succ m ih =>
    have hA : ∀ S, S < 2 ^ m → decide (∀ i, i < m + 1 → fr i = false → S.testBit i = v i) = (decide (∀ i, i < m → fr i = false → S.testBit i = v i) && (fr m || !v m)) := by
      intro S hS
      have hb : S.testBit m = false := Nat.testBit_lt_two_pow hS
      apply Bool.eq_iff_iff.mpr
      rw [Bool.and_eq_true, decide_eq_true_eq, decide_eq_true_eq]
      constructor
      · intro h
        refine ⟨fun i hi => h i (by omega), ?_⟩
        cases hf : fr m with
        | true => rfl
        | false =>
          have := h m (by omega) hf
          rw [← this, hb]
          try rfl
      · rintro ⟨h1, h2⟩ i hi hf
        rcases Nat.lt_or_ge i m with hl | hl
        · exact h1 i hl hf
        · have e : i = m := by omega
          rw [e] at hf ⊢
          rw [hf, Bool.false_or] at h2
          rw [hb]
          cases hv : v m with
          | false => rfl
          | true => rw [hv] at h2; exact Bool.noConfusion h2
    have hB : ∀ S, S < 2 ^ m → decide (∀ i, i < m + 1 → fr i = false → (2 ^ m + S).testBit i = v i) = (decide (∀ i, i < m → fr i = false → S.testBit i = v i) && (fr m || v m)) := by
      intro S hS
      have hb : (2 ^ m + S).testBit m = true := by rw [Nat.testBit_two_pow_add_eq, Nat.testBit_lt_two_pow hS]; try rfl
      apply Bool.eq_iff_iff.mpr
      rw [Bool.and_eq_true, decide_eq_true_eq, decide_eq_true_eq]
      constructor
      · intro h
        refine ⟨fun i hi hf => ?_, ?_⟩
        · rw [← Nat.testBit_two_pow_add_gt hi S]
          exact h i (by omega) hf
        · cases hf : fr m with
          | true => rfl
          | false =>
            have := h m (by omega) hf
            rw [← this, hb]
            try rfl
      · rintro ⟨h1, h2⟩ i hi hf
        rcases Nat.lt_or_ge i m with hl | hl
        · rw [Nat.testBit_two_pow_add_gt hl S]
          exact h1 i hl hf
        · have e : i = m := by omega
          rw [e] at hf ⊢
          rw [hf, Bool.false_or] at h2
          rw [hb, h2]
    have e2 : 2 ^ (m + 1) = 2 ^ m + 2 ^ m := by rw [Nat.pow_succ, Nat.mul_two]
    rw [e2, cd_cn_add, cd_cn_c hA, cd_cn_c hB, cd_cn_and, cd_cn_and, ih, cd_cn_s]
    cases fr m with
    | false =>
      cases v m with
      | false => exact Nat.add_zero _
      | true => exact Nat.zero_add _
    | true =>
      show 2 ^ cd_cn fr m + 2 ^ cd_cn fr m = 2 ^ (cd_cn fr m + 1)
      rw [Nat.pow_succ, Nat.mul_two]
theorem cd_many {N : Nat} {L : Nat → Nat → Bool} (O : cd_Ord N L) : ∀ n, n ≤ N → cd_cn (fun S => cd_cl L n S.testBit) (2 ^ n) = 1 + cd_sm (fun t => 2 ^ cd_bef L (fun _ => true) t) n := by
  intro n
  induction n with
  | zero =>
    intro _
    have e : cd_cl L 0 (0 : Nat).testBit = true := cd_cl_iff.mpr (fun k hk => absurd hk (Nat.not_lt_zero k))
    show 0 + (cd_cl L 0 (0 : Nat).testBit).toNat = 1 + 0
    rw [e]
    try rfl
  | succ n ih =>
    intro hn
    have hA : ∀ S, S < 2 ^ n → cd_cl L (n + 1) S.testBit = (cd_cl L n S.testBit && decide (∀ k, k < n → S.testBit k = true → L n k = false)) := by
      intro S hS
      have hb : S.testBit n = false := Nat.testBit_lt_two_pow hS
      apply Bool.eq_iff_iff.mpr
      rw [Bool.and_eq_true, decide_eq_true_eq, cd_cl_iff, cd_cl_iff]
      constructor
      · intro h
        refine ⟨fun k hk hs m hm hl => h k (by omega) hs m (by omega) hl, fun k hk hs => cd_nt (fun e => ?_)⟩
        exact cd_tf hb (h k (by omega) hs n (by omega) e)
      · rintro ⟨h1, h2⟩ k hk hs m hm hl
        rcases Nat.lt_or_ge k n with hkl | hkl
        · rcases Nat.lt_or_ge m n with hml | hml
          · exact h1 k hkl hs m hml hl
          · have e : m = n := by omega
            rw [e] at hl
            exact (cd_tf (h2 k hkl hs) hl).elim
        · have e : k = n := by omega
          rw [e] at hs
          exact (cd_tf hb hs).elim
    have hB : ∀ S, S < 2 ^ n → cd_cl L (n + 1) (2 ^ n + S).testBit = (cd_cl L n S.testBit && decide (∀ m, m < n → L m n = true → S.testBit m = true)) := by
      intro S hS
      have hb : (2 ^ n + S).testBit n = true := by rw [Nat.testBit_two_pow_add_eq, Nat.testBit_lt_two_pow hS]; try rfl
      have hg : ∀ i, i < n → (2 ^ n + S).testBit i = S.testBit i := fun i hi => Nat.testBit_two_pow_add_gt hi S
      apply Bool.eq_iff_iff.mpr
      rw [Bool.and_eq_true, decide_eq_true_eq, cd_cl_iff, cd_cl_iff]
      constructor
      · intro h
        refine ⟨fun k hk hs m hm hl => ?_, fun m hm hl => ?_⟩
        · rw [← hg m hm]
          exact h k (by omega) (by rw [hg k hk]; exact hs) m (by omega) hl
        · rw [← hg m hm]
          exact h n (by omega) hb m (by omega) hl
      · rintro ⟨h1, h2⟩ k hk hs m hm hl
        rcases Nat.lt_or_ge m n with hml | hml
        · rw [hg m hml]
          rcases Nat.lt_or_ge k n with hkl | hkl
          · rw [hg k hkl] at hs
            exact h1 k hkl hs m hml hl
          · have e : k = n := by omega
            rw [e] at hl
            exact h2 m hml hl
        · have e : m = n := by omega
          rw [e]
          exact hb
    have e2 : 2 ^ (n + 1) = 2 ^ n + 2 ^ n := by rw [Nat.pow_succ, Nat.mul_two]
    have hO : ∀ S, S < 2 ^ n → ((cd_cl L n S.testBit && decide (∀ k, k < n → S.testBit k = true → L n k = false)) || (cd_cl L n S.testBit && decide (∀ m, m < n → L m n = true → S.testBit m = true))) = cd_cl L n S.testBit := by
      intro S _
      rw [← Bool.and_or_distrib_left]
      cases hc : cd_cl L n S.testBit with
      | false => rfl
      | true =>
        rw [Bool.true_and, Bool.or_eq_true, decide_eq_true_eq, decide_eq_true_eq]
        by_cases hx : ∀ k, k < n → S.testBit k = true → L n k = false
        · exact Or.inl hx
        · refine Or.inr (fun m hm hl => ?_)
          apply Classical.byContradiction
          intro hno
          apply hx
          intro k hk hs
          refine cd_nt (fun e => hno ?_)
          exact cd_cl_iff.mp hc k hk hs m hm (O.2.1 m n k (by omega) (by omega) (by omega) hl e)
    have hAnd : ∀ S, S < 2 ^ n → ((cd_cl L n S.testBit && decide (∀ k, k < n → S.testBit k = true → L n k = false)) && (cd_cl L n S.testBit && decide (∀ m, m < n → L m n = true → S.testBit m = true))) = decide (∀ i, i < n → cd_inc L i n = false → S.testBit i = L i n) := by
      intro S _
      apply Bool.eq_iff_iff.mpr
      rw [Bool.and_eq_true, Bool.and_eq_true, Bool.and_eq_true, decide_eq_true_eq, decide_eq_true_eq, decide_eq_true_eq, cd_cl_iff]
      constructor
      · rintro ⟨⟨h1, h2⟩, ⟨_, h3⟩⟩ i hi hinc
        cases hl : L i n with
        | true => exact h3 i hi hl
        | false =>
          refine cd_nt (fun e => ?_)
          exact cd_tf hinc (cd_inc_iff.mpr ⟨hl, h2 i hi e⟩)
      · intro h
        have h2 : ∀ k, k < n → S.testBit k = true → L n k = false := by
          intro k hk hs
          refine cd_nt (fun e => ?_)
          have hinc : cd_inc L k n = false := cd_nt (fun e' => cd_tf (cd_inc_iff.mp e').2 e)
          have e1 := h k hk hinc
          rw [hs] at e1
          have e3 := O.2.1 k n k (by omega) (by omega) (by omega) e1.symm e
          exact cd_tf (O.1 k (by omega)) e3
        have h3 : ∀ m, m < n → L m n = true → S.testBit m = true := by
          intro m hm hl
          have hinc : cd_inc L m n = false := cd_nt (fun e' => cd_tf (cd_inc_iff.mp e').1 hl)
          rw [h m hm hinc, hl]
        have h1 : ∀ k, k < n → S.testBit k = true → ∀ m, m < n → L m k = true → S.testBit m = true := by
          intro k hk hs m hm hl
          apply h3 m hm
          cases hkn : L k n with
          | true => exact O.2.1 m k n (by omega) (by omega) (by omega) hl hkn
          | false => exact O.2.2.2 k n m (by omega) (by omega) (by omega) (by omega) hkn (h2 k hk hs) hl
        exact ⟨⟨h1, h2⟩, h1, h3⟩
    rw [e2, cd_cn_add, cd_cn_c hA, cd_cn_c hB, cd_cn_io, cd_cn_c hO, cd_cn_c hAnd, ih (by omega), cd_free (fun i => cd_inc L i n) (fun i => L i n) n, cd_sm_s, Nat.add_assoc]
    try rfl
/-! the ways to build a set up, one element after the other -/
def cd_val (L : Nat → Nat → Bool) (n S : Nat) : Nat := cond (cd_cl L n S.testBit) (cd_F L S.testBit n) 0
def cd_ok (L : Nat → Nat → Bool) (n S k : Nat) : Bool := decide (∀ m, m < n → L m k = true → S.testBit m = true)
def cd_tm (L : Nat → Nat → Bool) (n S T k : Nat) : Nat := cond (T.testBit k && (decide (T ^^^ 2 ^ k < S) && cd_ok L n (T ^^^ 2 ^ k) k)) (cd_val L n (T ^^^ 2 ^ k)) 0
def cd_W (L : Nat → Nat → Bool) (n S T : Nat) : Nat := (decide (T = 0)).toNat + cd_sm (cd_tm L n S T) n
def cd_ad (L : Nat → Nat → Bool) (n S T k : Nat) : Nat := cond (decide (T = S ||| 2 ^ k) && (!S.testBit k && cd_ok L n S k)) (cd_val L n S) 0
theorem cd_ok_iff {L : Nat → Nat → Bool} {n S k : Nat} : cd_ok L n S k = true ↔ ∀ m, m < n → L m k = true → S.testBit m = true := by
  unfold cd_ok
  rw [decide_eq_true_eq]
theorem cd_tx (T k i : Nat) : (T ^^^ 2 ^ k).testBit i = (T.testBit i ^^ decide (k = i)) := by
  rw [Nat.testBit_xor, Nat.testBit_two_pow]
theorem cd_tx' {T k : Nat} (h : T.testBit k = true) (i : Nat) : (T ^^^ 2 ^ k).testBit i = (T.testBit i && !decide (i = k)) := by
  rw [cd_tx]
  by_cases e : i = k
  · rw [e, h, decide_eq_true rfl]
    try rfl
  · rw [decide_eq_false e, decide_eq_false (fun z => e z.symm)]
    cases T.testBit i <;> rfl
theorem cd_tx_eq {S T k : Nat} : (T.testBit k = true ∧ T ^^^ 2 ^ k = S) ↔ (T = S ||| 2 ^ k ∧ S.testBit k = false) := by
  constructor
  · rintro ⟨h1, h2⟩
    have hb : ∀ i, S.testBit i = (T.testBit i && !decide (i = k)) := fun i => by rw [← h2]; exact cd_tx' h1 i
    refine ⟨?_, by rw [hb, decide_eq_true rfl, Bool.not_true, Bool.and_false]⟩
    apply Nat.eq_of_testBit_eq
    intro i
    rw [Nat.testBit_or, Nat.testBit_two_pow, hb]
    by_cases e : i = k
    · rw [e, h1, decide_eq_true rfl]
      try rfl
    · rw [decide_eq_false e, decide_eq_false (fun z => e z.symm)]
      cases T.testBit i <;> rfl
  · rintro ⟨h1, h2⟩
    have hb : ∀ i, T.testBit i = (S.testBit i || decide (k = i)) := fun i => by rw [h1, Nat.testBit_or, Nat.testBit_two_pow]
    have hk : T.testBit k = true := by rw [hb, decide_eq_true rfl, Bool.or_true]
    refine ⟨hk, ?_⟩
    apply Nat.eq_of_testBit_eq
    intro i
    rw [cd_tx' hk, hb]
    by_cases e : i = k
    · rw [e, h2, decide_eq_true rfl]
      try rfl
    · rw [decide_eq_false e, decide_eq_false (fun z => e z.symm)]
      cases S.testBit i <;> rfl
theorem cd_tx_lt {T k : Nat} (h : T.testBit k = true) : T ^^^ 2 ^ k < T := by
  obtain ⟨h1, h2⟩ := cd_tx_eq.mp ⟨h, rfl⟩
  have h3 : T ^^^ 2 ^ k ≤ (T ^^^ 2 ^ k) ||| 2 ^ k := Nat.left_le_or
  rw [← h1] at h3
  have h4 : T ^^^ 2 ^ k ≠ T := fun e => by
    rw [e] at h2
    exact cd_tf h2 h
  omega
theorem cd_W_s (L : Nat → Nat → Bool) (n S T : Nat) : cd_W L n S T + cd_sm (cd_ad L n S T) n = cd_W L n (S + 1) T := by
  unfold cd_W
  rw [Nat.add_assoc, cd_sm_add]
  congr 1
  apply cd_sm_c
  intro k _
  try dsimp only
  unfold cd_tm cd_ad
  by_cases hx : T.testBit k = true ∧ T ^^^ 2 ^ k = S
  · obtain ⟨h1, h2⟩ := cd_tx_eq.mp hx
    rw [hx.1, hx.2, decide_eq_true h1, h2, decide_eq_false (by omega : ¬ S < S), decide_eq_true (by omega : S < S + 1)]
    cases cd_ok L n S k with
    | false => rfl
    | true => exact Nat.zero_add _
  · have hy : ¬ (T = S ||| 2 ^ k ∧ S.testBit k = false) := fun z => hx (cd_tx_eq.mpr z)
    have e1 : (decide (T = S ||| 2 ^ k) && (!S.testBit k && cd_ok L n S k)) = false := cd_nt (fun z => by
      rw [Bool.and_eq_true, Bool.and_eq_true, decide_eq_true_eq] at z
      apply hy
      refine ⟨z.1, ?_⟩
      have := z.2.1
      cases hs : S.testBit k with
      | false => rfl
      | true => rw [hs] at this; exact Bool.noConfusion this)
    rw [e1]
    show _ + 0 = _
    rw [Nat.add_zero]
    cases hk : T.testBit k with
    | false => rfl
    | true =>
      have hne : T ^^^ 2 ^ k ≠ S := fun z => hx ⟨hk, z⟩
      have e2 : decide (T ^^^ 2 ^ k < S + 1) = decide (T ^^^ 2 ^ k < S) := by
        apply Bool.eq_iff_iff.mpr
        rw [decide_eq_true_eq, decide_eq_true_eq]
        omega
      rw [e2]
theorem cd_W_0 (L : Nat → Nat → Bool) (n T : Nat) : cd_W L n 0 T = (decide (T = 0)).toNat := by
  unfold cd_W
  rw [cd_sm_0, Nat.add_zero]
  intro k _
  unfold cd_tm
  rw [decide_eq_false (Nat.not_lt_zero _), Bool.false_and, Bool.and_false]
  try rfl
theorem cd_W_T {n : Nat} {L : Nat → Nat → Bool} (O : cd_Ord n L) {S T : Nat} (hT : T < 2 ^ n) (hS : T ≤ S) : cd_W L n S T = cd_val L n T := by
  have ht : cd_sm (cd_tm L n S T) n = cd_sm (fun k => cond (T.testBit k && cd_ok L n (T ^^^ 2 ^ k) k) (cd_val L n (T ^^^ 2 ^ k)) 0) n := by
    apply cd_sm_c
    intro k _
    unfold cd_tm
    cases hk : T.testBit k with
    | false => rfl
    | true =>
      have := cd_tx_lt hk
      rw [decide_eq_true (by omega : T ^^^ 2 ^ k < S), Bool.true_and]
  unfold cd_W
  rw [ht]
  by_cases h0 : T = 0
  · have e1 : cd_cl L n T.testBit = true := cd_cl_iff.mpr (fun k hk hs => by rw [h0, Nat.zero_testBit] at hs; exact Bool.noConfusion hs)
    have e2 : cd_F L T.testBit n = 1 := by
      have : ∀ m, cd_pd (fun k => cond (T.testBit k) (1 + cd_bef L T.testBit k) 1) m = 1 := by
        intro m
        induction m with
        | zero => rfl
        | succ m ih =>
          rw [cd_pd_s, ih, h0, Nat.zero_testBit]
          try rfl
      exact this n
    rw [cd_sm_0, decide_eq_true h0]
    · unfold cd_val
      rw [e1, e2]
      try rfl
    · intro k _
      rw [h0, Nat.zero_testBit]
      try rfl
  · rw [decide_eq_false h0]
    show 0 + _ = _
    rw [Nat.zero_add]
    obtain ⟨i0, hi0⟩ : ∃ i, T.testBit i = true := by
      apply Classical.byContradiction
      intro hno
      apply h0
      apply Nat.eq_of_testBit_eq
      intro i
      rw [Nat.zero_testBit]
      exact cd_nt (fun e => hno ⟨i, e⟩)
    have hi0n : i0 < n := by
      rcases Nat.lt_or_ge i0 n with hl | hl
      · exact hl
      · have := Nat.testBit_lt_two_pow (x := T) (i := i0) (Nat.lt_of_lt_of_le hT (Nat.pow_le_pow_right (by decide) hl))
        exact (cd_tf this hi0).elim
    unfold cd_val
    cases hc : cd_cl L n T.testBit with
    | false =>
      show _ = 0
      apply cd_sm_0
      intro k hk
      cases hTk : T.testBit k with
      | false => rfl
      | true =>
        rw [Bool.true_and]
        cases hok : cd_ok L n (T ^^^ 2 ^ k) k with
        | false => rfl
        | true =>
          show cond (cd_cl L n (T ^^^ 2 ^ k).testBit) _ 0 = 0
          cases hcl : cd_cl L n (T ^^^ 2 ^ k).testBit with
          | false => rfl
          | true =>
            refine (cd_tf hc (cd_cl_iff.mpr (fun j hj hjs m hm hl => ?_))).elim
            have hu : ∀ m, (T ^^^ 2 ^ k).testBit m = true → T.testBit m = true := by
              intro m h
              rw [cd_tx' hTk, Bool.and_eq_true] at h
              exact h.1
            apply hu
            by_cases e : j = k
            · rw [e] at hl
              exact cd_ok_iff.mp hok m hm hl
            · exact cd_cl_iff.mp hcl j hj (by rw [cd_tx' hTk, decide_eq_false e, hjs]; try rfl) m hm hl
    | true =>
      show _ = cd_F L T.testBit n
      rw [← cd_F_sum O T.testBit hi0n hi0]
      apply cd_sm_c
      intro k hk
      try dsimp only
      cases hTk : T.testBit k with
      | false =>
        rw [cd_low_T hTk]
        try rfl
      | true =>
        have hcl := cd_cl_iff.mp hc
        have hne : ∀ m, m < n → L m k = true → ¬ m = k := by
          intro m hm hl e
          rw [e] at hl
          exact cd_tf (O.1 k hk) hl
        have hok : cd_ok L n (T ^^^ 2 ^ k) k = true := cd_ok_iff.mpr (fun m hm hl => by
          rw [cd_tx' hTk, decide_eq_false (hne m hm hl), hcl k hk hTk m hm hl]
          rfl)
        rw [hok, Bool.and_true]
        have eF : cd_F L (T ^^^ 2 ^ k).testBit n = cd_F L (fun i => T.testBit i && !decide (i = k)) n := cd_F_c (fun i _ => cd_tx' hTk i)
        have eL : cd_cl L n (T ^^^ 2 ^ k).testBit = cd_low L n T.testBit k := by
          apply Bool.eq_iff_iff.mpr
          rw [cd_cl_iff, cd_low_iff]
          constructor
          · intro h
            refine ⟨hTk, fun j hj hjt => cd_nt (fun e => ?_)⟩
            have hjk : ¬ j = k := fun z => by
              rw [z] at e
              exact cd_tf (O.1 k hk) e
            have := h j hj (by rw [cd_tx' hTk, decide_eq_false hjk, hjt]; try rfl) k hk e
            rw [cd_tx' hTk, decide_eq_true rfl, Bool.not_true, Bool.and_false] at this
            exact Bool.noConfusion this
          · rintro ⟨_, h⟩ j hj hjs m hm hl
            rw [cd_tx' hTk, Bool.and_eq_true] at hjs
            have hmk : ¬ m = k := fun z => by
              rw [z] at hl
              exact cd_tf (h j hj hjs.1) hl
            rw [cd_tx' hTk, decide_eq_false hmk, hcl j hj hjs.1 m hm hl]
            try rfl
        show cond (cd_cl L n (T ^^^ 2 ^ k).testBit) (cd_F L (T ^^^ 2 ^ k).testBit n) 0 = _
        rw [eF, eL]
end
section
/-! the threads of a cloth of w warps and h wefts; A c r: warp c is above weft r -/
def cd_th (w h t : Nat) : Bool := decide (t < w) || (decide (8 ≤ t) && decide (t < 8 + h))
def cd_ab (A : Nat → Nat → Bool) (w h t u : Nat) : Bool :=
  (decide (t < w) && (decide (8 ≤ u) && (decide (u < 8 + h) && A t (u - 8)))) || (decide (8 ≤ t) && (decide (t < 8 + h) && (decide (u < w) && !A u (t - 8))))
theorem cd_th_iff {w h t : Nat} : cd_th w h t = true ↔ t < w ∨ (8 ≤ t ∧ t < 8 + h) := by
  unfold cd_th
  rw [Bool.or_eq_true, Bool.and_eq_true, decide_eq_true_eq, decide_eq_true_eq, decide_eq_true_eq]
theorem cd_nb {b : Bool} : (!b) = true ↔ b = false := by cases b <;> decide
theorem cd_ab_iff {A : Nat → Nat → Bool} {w h t u : Nat} : cd_ab A w h t u = true ↔ (t < w ∧ 8 ≤ u ∧ u < 8 + h ∧ A t (u - 8) = true) ∨ (8 ≤ t ∧ t < 8 + h ∧ u < w ∧ A u (t - 8) = false) := by
  unfold cd_ab
  rw [Bool.or_eq_true, Bool.and_eq_true, Bool.and_eq_true, Bool.and_eq_true, Bool.and_eq_true, Bool.and_eq_true, Bool.and_eq_true, cd_nb, decide_eq_true_eq, decide_eq_true_eq, decide_eq_true_eq, decide_eq_true_eq, decide_eq_true_eq, decide_eq_true_eq]
theorem cd_ab_th {A : Nat → Nat → Bool} {w h t u : Nat} (e : cd_ab A w h t u = true) : cd_th w h t = true ∧ cd_th w h u = true := by
  rw [cd_th_iff, cd_th_iff]
  rcases cd_ab_iff.mp e with z | z
  · exact ⟨Or.inl z.1, Or.inr ⟨z.2.1, z.2.2.1⟩⟩
  · exact ⟨Or.inr ⟨z.1, z.2.1⟩, Or.inl z.2.2.1⟩
theorem cd_ab_x {A : Nat → Nat → Bool} {w h c r : Nat} (hc : c < w) (hr : 8 ≤ r) (hr' : r < 8 + h) : cd_ab A w h c r = true ∨ cd_ab A w h r c = true := by
  cases e : A c (r - 8) with
  | true => exact Or.inl (cd_ab_iff.mpr (Or.inl ⟨hc, hr, hr', e⟩))
  | false => exact Or.inr (cd_ab_iff.mpr (Or.inr ⟨hr, hr', hc, e⟩))
/-! y is reached from x going down: the least set that holds x and goes down with ab -/
def cd_R (ab : Nat → Nat → Bool) (t u : Nat) : Prop := ∀ P : Nat → Prop, P t → (∀ x y, P x → ab x y = true → P y) → P u
theorem cd_R_r (ab : Nat → Nat → Bool) (t : Nat) : cd_R ab t t := fun _ h _ => h
theorem cd_R_t {ab : Nat → Nat → Bool} {t u v : Nat} (h : cd_R ab t u) (h' : cd_R ab u v) : cd_R ab t v := fun P p s => h' P (h P p s) s
theorem cd_R_1 {ab : Nat → Nat → Bool} {t u : Nat} (h : ab t u = true) : cd_R ab t u := fun _ p s => s t u p h
theorem cd_R_l {ab : Nat → Nat → Bool} {t u : Nat} (h : cd_R ab t u) : u = t ∨ ∃ y, ab t y = true ∧ cd_R ab y u := by
  refine h (fun z => z = t ∨ ∃ y, ab t y = true ∧ cd_R ab y z) (Or.inl rfl) ?_
  rintro x y (rfl | ⟨z, hz, hr⟩) hxy
  · exact Or.inr ⟨y, hxy, cd_R_r ab y⟩
  · exact Or.inr ⟨z, hz, cd_R_t hr (cd_R_1 hxy)⟩
theorem cd_R_g {ab : Nat → Nat → Bool} {t u : Nat} (h : cd_R ab t u) : u = t ∨ ∃ y, cd_R ab t y ∧ ab y u = true := by
  have := h (fun z => cd_R ab t z ∧ (z = t ∨ ∃ y, cd_R ab t y ∧ ab y z = true)) ⟨cd_R_r ab t, Or.inl rfl⟩
    (fun x y hx hxy => ⟨cd_R_t hx.1 (cd_R_1 hxy), Or.inr ⟨x, hx.1, hxy⟩⟩)
  exact this.2
noncomputable def cd_rr (A : Nat → Nat → Bool) (w h t u : Nat) : Bool := cd_th w h t && (cd_th w h u && @decide (cd_R (cd_ab A w h) t u) (Classical.propDecidable _))
theorem cd_rr_iff {A : Nat → Nat → Bool} {w h t u : Nat} : cd_rr A w h t u = true ↔ cd_th w h t = true ∧ cd_th w h u = true ∧ cd_R (cd_ab A w h) t u := by
  unfold cd_rr
  rw [Bool.and_eq_true, Bool.and_eq_true, @decide_eq_true_eq (cd_R (cd_ab A w h) t u) (Classical.propDecidable _)]
theorem cd_rr_th {A : Nat → Nat → Bool} {w h t : Nat} : cd_rr A w h t t = cd_th w h t := by
  apply Bool.eq_iff_iff.mpr
  rw [cd_rr_iff]
  exact ⟨fun z => z.1, fun z => ⟨z, z, cd_R_r _ t⟩⟩
/-- what is used of the relation: each thread is beneath itself, it is transitive, threads that aren't comparable stand alike to all others, a warp and a weft are comparable -/
def cd_Cl (r : Nat → Nat → Bool) : Prop :=
  (∀ x y, r x y = true → r x x = true ∧ r y y = true) ∧
  (∀ x y z, r x y = true → r y z = true → r x z = true) ∧
  (∀ a b x, r a a = true → r b b = true → r a b = false → r b a = false → r a x = true → x ≠ a → r b x = true) ∧
  (∀ a b x, r a a = true → r b b = true → r a b = false → r b a = false → r x a = true → x ≠ a → r x b = true) ∧
  (∀ a b, a < 8 → 8 ≤ b → r a a = true → r b b = true → r a b = true ∨ r b a = true)
theorem cd_rr_f {A : Nat → Nat → Bool} {w h t u : Nat} (ht : cd_th w h t = true) (hu : cd_th w h u = true) (e : cd_rr A w h t u = false) : ¬ cd_R (cd_ab A w h) t u :=
  fun z => cd_tf e (cd_rr_iff.mpr ⟨ht, hu, z⟩)
theorem cd_side {A : Nat → Nat → Bool} {w h a b y : Nat} (hw : w ≤ 8) (ha : cd_th w h a = true) (hb : cd_th w h b = true) (n1 : ¬ cd_R (cd_ab A w h) a b) (n2 : ¬ cd_R (cd_ab A w h) b a) (hy : cd_ab A w h a y = true ∨ cd_ab A w h y a = true) :
    cd_ab A w h b y = true ∨ cd_ab A w h y b = true := by
  rw [cd_th_iff] at ha hb
  have hyy : (a < 8 ∧ 8 ≤ y ∧ y < 8 + h) ∨ (8 ≤ a ∧ y < w) := by
    rcases hy with z | z
    · rcases cd_ab_iff.mp z with q | q
      · exact Or.inl ⟨by omega, q.2.1, q.2.2.1⟩
      · exact Or.inr ⟨q.1, q.2.2.1⟩
    · rcases cd_ab_iff.mp z with q | q
      · exact Or.inr ⟨q.2.1, q.1⟩
      · exact Or.inl ⟨by omega, q.1, q.2.1⟩
  rcases ha with ha | ⟨ha, ha'⟩
  · rcases hb with hb | ⟨hb, hb'⟩
    · rcases hyy with q | q
      · exact cd_ab_x hb q.2.1 q.2.2
      · omega
    · rcases cd_ab_x (A := A) ha hb hb' with z | z
      · exact absurd (cd_R_1 z) n1
      · exact absurd (cd_R_1 z) n2
  · rcases hb with hb | ⟨hb, hb'⟩
    · rcases cd_ab_x (A := A) hb ha ha' with z | z
      · exact absurd (cd_R_1 z) n2
      · exact absurd (cd_R_1 z) n1
    · rcases hyy with q | q
      · omega
      · exact (cd_ab_x (A := A) q.2 hb hb').symm
theorem cd_rr_Cl (A : Nat → Nat → Bool) {w h : Nat} (hw : w ≤ 8) : cd_Cl (cd_rr A w h) := by
  refine ⟨?_, ?_, ?_, ?_, ?_⟩
  · intro x y e
    obtain ⟨h1, h2, h3⟩ := cd_rr_iff.mp e
    rw [cd_rr_th, cd_rr_th]
    exact ⟨h1, h2⟩
  · intro x y z e1 e2
    obtain ⟨h1, h2, h3⟩ := cd_rr_iff.mp e1
    obtain ⟨h4, h5, h6⟩ := cd_rr_iff.mp e2
    exact cd_rr_iff.mpr ⟨h1, h5, cd_R_t h3 h6⟩
  · intro a b x ha hb n1 n2 e hx
    rw [cd_rr_th] at ha hb
    obtain ⟨h1, h2, h3⟩ := cd_rr_iff.mp e
    have m1 := cd_rr_f ha hb n1
    have m2 := cd_rr_f hb ha n2
    rcases cd_R_l h3 with z | ⟨y, hy, hr⟩
    · exact absurd z hx
    · rcases cd_side hw ha hb m1 m2 (Or.inl hy) with z | z
      · exact cd_rr_iff.mpr ⟨hb, h2, cd_R_t (cd_R_1 z) hr⟩
      · exact absurd (cd_R_t (cd_R_1 hy) (cd_R_1 z)) m1
  · intro a b x ha hb n1 n2 e hx
    rw [cd_rr_th] at ha hb
    obtain ⟨h1, h2, h3⟩ := cd_rr_iff.mp e
    have m1 := cd_rr_f ha hb n1
    have m2 := cd_rr_f hb ha n2
    rcases cd_R_g h3 with z | ⟨y, hr, hy⟩
    · exact absurd z.symm hx
    · rcases cd_side hw ha hb m1 m2 (Or.inr hy) with z | z
      · exact absurd (cd_R_t (cd_R_1 z) (cd_R_1 hy)) m2
      · exact cd_rr_iff.mpr ⟨h1, hb, cd_R_t hr (cd_R_1 z)⟩
  · intro a b ha hb h1 h2
    rw [cd_rr_th] at h1 h2
    have q1 := cd_th_iff.mp h1
    have q2 := cd_th_iff.mp h2
    rcases cd_ab_x (A := A) (w := w) (h := h) (c := a) (r := b) (by omega) hb (by omega) with z | z
    · exact Or.inl (cd_rr_iff.mpr ⟨h1, h2, cd_R_1 z⟩)
    · exact Or.inr (cd_rr_iff.mpr ⟨h2, h1, cd_R_1 z⟩)
/-! the first threads of the knots, and their ranks -/
def cd_eq (r : Nat → Nat → Bool) (a b : Nat) : Bool := r a b && r b a
def cd_fst (r : Nat → Nat → Bool) (t : Nat) : Bool := r t t && decide (∀ u, u < t → cd_eq r u t = false)
theorem cd_eq_iff {r : Nat → Nat → Bool} {a b : Nat} : cd_eq r a b = true ↔ r a b = true ∧ r b a = true := by
  unfold cd_eq
  rw [Bool.and_eq_true]
theorem cd_fst_iff {r : Nat → Nat → Bool} {t : Nat} : cd_fst r t = true ↔ r t t = true ∧ ∀ u, u < t → cd_eq r u t = false := by
  unfold cd_fst
  rw [Bool.and_eq_true, decide_eq_true_eq]
theorem cd_fst_u {r : Nat → Nat → Bool} {a b : Nat} (ha : cd_fst r a = true) (hb : cd_fst r b = true) (h1 : r a b = true) (h2 : r b a = true) : a = b := by
  rcases Nat.lt_trichotomy a b with hl | hl | hl
  · exact (cd_tf ((cd_fst_iff.mp hb).2 a hl) (cd_eq_iff.mpr ⟨h1, h2⟩)).elim
  · exact hl
  · exact (cd_tf ((cd_fst_iff.mp ha).2 b hl) (cd_eq_iff.mpr ⟨h2, h1⟩)).elim
noncomputable def cd_fs (r : Nat → Nat → Bool) (k : Nat) : Nat := Classical.epsilon (fun s => cd_fst r s = true ∧ cd_cn (cd_fst r) s = k)
noncomputable def cd_L (r : Nat → Nat → Bool) (m k : Nat) : Bool := !decide (m = k) && r (cd_fs r m) (cd_fs r k)
theorem cd_fs_c {r : Nat → Nat → Bool} {s : Nat} (h : cd_fst r s = true) : cd_fs r (cd_cn (cd_fst r) s) = s := by
  have e : cd_fst r (cd_fs r (cd_cn (cd_fst r) s)) = true ∧ cd_cn (cd_fst r) (cd_fs r (cd_cn (cd_fst r) s)) = cd_cn (cd_fst r) s :=
    Classical.epsilon_spec (p := fun s' => cd_fst r s' = true ∧ cd_cn (cd_fst r) s' = cd_cn (cd_fst r) s) ⟨s, h, rfl⟩
  exact cd_cn_inj e.1 h e.2
theorem cd_fs_k {r : Nat → Nat → Bool} {N k : Nat} (h : k < cd_cn (cd_fst r) N) : cd_fs r k < N ∧ cd_fst r (cd_fs r k) = true ∧ cd_cn (cd_fst r) (cd_fs r k) = k := by
  obtain ⟨s, h1, h2, h3⟩ := cd_cn_ex h
  have e := cd_fs_c h2
  rw [h3] at e
  rw [e]
  exact ⟨h1, h2, h3⟩
theorem cd_L_iff {r : Nat → Nat → Bool} {m k : Nat} : cd_L r m k = true ↔ m ≠ k ∧ r (cd_fs r m) (cd_fs r k) = true := by
  unfold cd_L
  rw [Bool.and_eq_true, cd_nb, decide_eq_false_iff_not]
theorem cd_L_Ord {r : Nat → Nat → Bool} (C : cd_Cl r) (N : Nat) : cd_Ord (cd_cn (cd_fst r) N) (cd_L r) := by
  have hne : ∀ i j, i < cd_cn (cd_fst r) N → j < cd_cn (cd_fst r) N → i ≠ j → cd_fs r i ≠ cd_fs r j := by
    intro i j hi hj hij e
    have h1 := (cd_fs_k hi).2.2
    have h2 := (cd_fs_k hj).2.2
    rw [e, h2] at h1
    exact hij h1.symm
  have hr : ∀ i, i < cd_cn (cd_fst r) N → r (cd_fs r i) (cd_fs r i) = true := fun i hi => (cd_fst_iff.mp (cd_fs_k hi).2.1).1
  have hf : ∀ i j, i ≠ j → cd_L r i j = false → r (cd_fs r i) (cd_fs r j) = false := fun i j hij e => cd_nt (fun z => cd_tf e (cd_L_iff.mpr ⟨hij, z⟩))
  refine ⟨?_, ?_, ?_, ?_⟩
  · intro i _
    exact cd_nt (fun e => (cd_L_iff.mp e).1 rfl)
  · intro i j k hi hj hk e1 e2
    obtain ⟨n1, q1⟩ := cd_L_iff.mp e1
    obtain ⟨n2, q2⟩ := cd_L_iff.mp e2
    refine cd_L_iff.mpr ⟨fun e => ?_, C.2.1 _ _ _ q1 q2⟩
    rw [← e] at q2
    exact hne i j hi hj n1 (cd_fst_u (cd_fs_k hi).2.1 (cd_fs_k hj).2.1 q1 q2)
  · intro i j k hi hj hk hij n1 n2 e
    obtain ⟨n3, q3⟩ := cd_L_iff.mp e
    refine cd_L_iff.mpr ⟨fun z => ?_, C.2.2.1 _ _ _ (hr i hi) (hr j hj) (hf i j hij n1) (hf j i (fun z => hij z.symm) n2) q3 (hne k i hk hi (fun z => n3 z.symm))⟩
    rw [← z] at e
    exact cd_tf n1 e
  · intro i j k hi hj hk hij n1 n2 e
    obtain ⟨n3, q3⟩ := cd_L_iff.mp e
    refine cd_L_iff.mpr ⟨fun z => ?_, C.2.2.2.1 _ _ _ (hr i hi) (hr j hj) (hf i j hij n1) (hf j i (fun z => hij z.symm) n2) q3 (hne k i hk hi n3)⟩
    rw [z] at e
    exact cd_tf n2 e
/-- the knots of the level of t that begin before t -/
def cd_kb (r : Nat → Nat → Bool) (t : Nat) : Nat := cd_cn (fun s => cd_fst r s && (!r s t && !r t s)) t
theorem cd_kb_bef {r : Nat → Nat → Bool} {t : Nat} (ht : cd_fst r t = true) : cd_kb r t = cd_bef (cd_L r) (fun _ => true) (cd_cn (cd_fst r) t) := by
  unfold cd_bef
  rw [← cd_tr_cn]
  apply cd_cn_c
  intro s hs
  try dsimp only
  rw [Bool.true_and]
  cases hf : cd_fst r s with
  | false => rfl
  | true =>
    have hlt := cd_cn_lt hs hf
    unfold cd_inc cd_L
    rw [cd_fs_c hf, cd_fs_c ht, decide_eq_false (by omega), decide_eq_false (by omega)]
    try rfl
theorem cd_lifts {r : Nat → Nat → Bool} (C : cd_Cl r) (N : Nat) : cd_cn (fun S => cd_cl (cd_L r) (cd_cn (cd_fst r) N) S.testBit) (2 ^ cd_cn (cd_fst r) N) = 1 + cd_sm (fun t => cond (cd_fst r t) (2 ^ cd_kb r t) 0) N := by
  rw [cd_many (cd_L_Ord C N) _ (Nat.le_refl _), ← cd_tr_sm]
  congr 1
  apply cd_sm_c
  intro t _
  cases hf : cd_fst r t with
  | false => rfl
  | true => rw [cd_kb_bef hf]
theorem cd_divs (r : Nat → Nat → Bool) (N : Nat) : cd_F (cd_L r) (fun _ => true) (cd_cn (cd_fst r) N) = cd_pd (fun t => cond (cd_fst r t) (1 + cd_kb r t) 1) N := by
  have e : cd_F (cd_L r) (fun _ => true) (cd_cn (cd_fst r) N) = cd_pd (fun k => 1 + cd_bef (cd_L r) (fun _ => true) k) (cd_cn (cd_fst r) N) := rfl
  rw [e, ← cd_tr_pd]
  apply cd_pd_c
  intro t _
  cases hf : cd_fst r t with
  | false => rfl
  | true => rw [cd_kb_bef hf]
theorem cd_kb_le {r : Nat → Nat → Bool} (C : cd_Cl r) {t : Nat} (ht : cd_fst r t = true) : 1 + cd_kb r t ≤ if t < 8 then t + 1 else t - 7 := by
  by_cases h8 : t < 8
  · rw [if_pos h8]
    have := cd_cn_le (fun s => cd_fst r s && (!r s t && !r t s)) t
    unfold cd_kb
    omega
  · rw [if_neg h8]
    obtain ⟨c, hc⟩ : ∃ c, t = 8 + c := ⟨t - 8, by omega⟩
    have h1 : cd_kb r t = cd_cn (fun s => cd_fst r s && (!r s t && !r t s)) 8 + cd_cn (fun i => cd_fst r (8 + i) && (!r (8 + i) t && !r t (8 + i))) c := by
      rw [← cd_cn_add (fun s => cd_fst r s && (!r s t && !r t s)) 8 c, ← hc]
      try rfl
    have h2 : cd_cn (fun s => cd_fst r s && (!r s t && !r t s)) 8 = 0 := by
      apply cd_cn_f
      intro s hs
      try dsimp only
      cases hf : cd_fst r s with
      | false => rfl
      | true =>
        rcases C.2.2.2.2 s t hs (by omega) (cd_fst_iff.mp hf).1 (cd_fst_iff.mp ht).1 with z | z
        · rw [z]
          try rfl
        · rw [z, Bool.not_true, Bool.and_false, Bool.and_false]
    have h3 := cd_cn_le (fun i => cd_fst r (8 + i) && (!r (8 + i) t && !r t (8 + i))) c
    omega
theorem cd_top : cd_pd (fun t => if t < 8 then t + 1 else t - 7) 16 = 1625702400 := by decide +kernel
theorem cd_bound {r : Nat → Nat → Bool} (C : cd_Cl r) (T : Nat → Bool) : cd_F (cd_L r) T (cd_cn (cd_fst r) 16) < 2147483648 := by
  have h1 := cd_F_full (cd_L r) T (cd_cn (cd_fst r) 16)
  rw [cd_divs] at h1
  have h2 : cd_pd (fun t => cond (cd_fst r t) (1 + cd_kb r t) 1) 16 ≤ cd_pd (fun t => if t < 8 then t + 1 else t - 7) 16 := by
    apply cd_pd_le
    intro t _
    try dsimp only
    cases hf : cd_fst r t with
    | false =>
      show 1 ≤ _
      split <;> omega
    | true => exact cd_kb_le C hf
  rw [cd_top] at h2
  omega
theorem cd_vb {r : Nat → Nat → Bool} (C : cd_Cl r) (S : Nat) : cd_val (cd_L r) (cd_cn (cd_fst r) 16) S < 2147483648 := by
  unfold cd_val
  cases cd_cl (cd_L r) (cd_cn (cd_fst r) 16) S.testBit with
  | false => show 0 < _; omega
  | true => exact cd_bound C _
theorem cd_v_pos {L : Nat → Nat → Bool} {n S : Nat} : 0 < cd_val L n S ↔ cd_cl L n S.testBit = true := by
  unfold cd_val
  cases cd_cl L n S.testBit with
  | false => exact ⟨fun z => absurd z (Nat.lt_irrefl 0), fun z => Bool.noConfusion z⟩
  | true => exact ⟨fun _ => rfl, fun _ => cd_F_pos L _ n⟩
theorem cd_v_full (r : Nat → Nat → Bool) (N : Nat) : cd_val (cd_L r) (cd_cn (cd_fst r) N) (2 ^ cd_cn (cd_fst r) N - 1) = cd_pd (fun t => cond (cd_fst r t) (1 + cd_kb r t) 1) N := by
  have hb : ∀ i, i < cd_cn (cd_fst r) N → (2 ^ cd_cn (cd_fst r) N - 1).testBit i = true := fun i hi => by rw [Nat.testBit_two_pow_sub_one, decide_eq_true hi]
  have hc : cd_cl (cd_L r) (cd_cn (cd_fst r) N) (2 ^ cd_cn (cd_fst r) N - 1).testBit = true := cd_cl_iff.mpr (fun _ _ _ m hm _ => hb m hm)
  unfold cd_val
  rw [hc, ← cd_divs]
  exact cd_F_c hb
end
section
/-! rows of the kit, pasted: kit/rows/PURE-ROWS and kit/rows/BITS -/
theorem pk_us {f : Nat → Int32} {k : Nat} {x : Int32} : upd f k x k = x := if_pos rfl
theorem pk_un {f : Nat → Int32} {k j : Nat} {x : Int32} (h : j ≠ k) : upd f k x j = f j := if_neg h
theorem pk_sub {a b : Nat} (h : b ≤ a) : nI a - nI b = nI (a - b) := by
  obtain ⟨c, rfl⟩ : ∃ c, a = c + b := ⟨a - b, by omega⟩
  rw [← nI_add, Int32.add_sub_cancel, Nat.add_sub_cancel]
theorem pk_m1 (n : Nat) : nI (n + 1) + (-1) = nI n := by
  rw [← nI_1, Int32.add_assoc, show (1 : Int32) + (-1) = 0 from rfl, Int32.add_zero]
theorem pk_mul (a b : Nat) : nI a * nI b = nI (a * b) := (Int32.ofNat_mul a b).symm
theorem pk_div {a d : Nat} (ha : a < 2 ^ 31) (h0 : 0 < d) (hd : d < 2 ^ 31) : nI a / nI d = nI (a / d) := by
  apply Int32.toInt_inj.mp
  rw [lg_idiv_nonneg (by rw [nI_toInt ha]; omega) (by rw [nI_toInt hd]; omega), nI_toInt ha, nI_toInt hd, nI_toInt (Nat.lt_of_le_of_lt (Nat.div_le_self a d) ha)]
  first | rfl | exact (Int.natCast_ediv _ _).symm
theorem pk_rem {a d : Nat} (ha : a < 2 ^ 31) (h0 : 0 < d) (hd : d < 2 ^ 31) : nI a - nI a / nI d * nI d = nI (a % d) := by
  rw [pk_div ha h0 hd, pk_mul, pk_sub (Nat.div_mul_le_self a d)]
  exact congrArg nI (by have := Nat.div_add_mod' a d; omega)
theorem pk_sub_toInt {a b : Nat} (ha : a < 2 ^ 30) (hb : b < 2 ^ 30) : (nI a - nI b).toInt = (a : Int) - b := by
  rw [Int32.toInt_sub, nI_toInt (by omega), nI_toInt (by omega)]
  exact Int.bmod_eq_of_le (by omega) (by omega)
theorem pk_sneg {a b : Nat} (hb : b < 2 ^ 30) (h : a < b) : nI a - nI b < 0 := by
  rw [Int32.lt_iff_toInt_lt, pk_sub_toInt (by omega) hb, show (0 : Int32).toInt = 0 from by decide]
  omega
theorem pk_ix (x : Int32) {n : Nat} (hn : n < 2 ^ 31) : x < 0 ∨ nI n ≤ x ∨ ∃ j : Nat, j < n ∧ x = nI j := by
  by_cases h : x < 0
  · exact Or.inl h
  · obtain ⟨j, hj, rfl⟩ := nI_of h
    by_cases h2 : j < n
    · exact Or.inr (Or.inr ⟨j, h2, rfl⟩)
    · exact Or.inr (Or.inl (nI_le (by omega) hj))
theorem pk_le {x y : Int32} {A B : Prop} (a b : Nat) (f : a ≤ b → A) (g : b < a → B) (hx : x = nI a := by rfl) (hy : y = nI b := by rfl) (ha : a < 2 ^ 31 := by omega) (hb : b < 2 ^ 31 := by omega) : (x ≤ y → A) ∧ (¬ x ≤ y → B) := by
  subst hx hy
  rw [nI_leI ha hb]
  exact ⟨f, fun z => g (by omega)⟩
theorem pk_lt {x y : Int32} {A B : Prop} (a b : Nat) (f : a < b → A) (g : b ≤ a → B) (hx : x = nI a := by rfl) (hy : y = nI b := by rfl) (ha : a < 2 ^ 31 := by omega) (hb : b < 2 ^ 31 := by omega) : (x < y → A) ∧ (¬ x < y → B) := by
  subst hx hy
  rw [nI_ltI ha hb]
  exact ⟨f, fun z => g (by omega)⟩
theorem pk_eq {x y : Int32} {A B : Prop} (a b : Nat) (f : a = b → A) (g : a ≠ b → B) (hx : x = nI a := by rfl) (hy : y = nI b := by rfl) (ha : a < 2 ^ 31 := by omega) (hb : b < 2 ^ 31 := by omega) : (x = y → A) ∧ (¬ x = y → B) := by
  subst hx hy
  rw [nI_eq ha hb]
  exact ⟨f, g⟩
theorem pk_in {x : Int32} (n N : Nat) (h : n < N) (hx : x = nI n := by rfl) (hN : N < 2 ^ 31 := by omega) : vp_in x N := by
  subst hx
  exact vp_in_nI h hN
theorem pk_cl {x : Int32} (n : Nat) (hx : x = nI n := by rfl) (h : n < 2 ^ 31 := by omega) : x.toNatClampNeg = n := by
  subst hx
  exact nI_clamp h
theorem pk_tn {n : Nat} (h : n < 2 ^ 32) : (nI n).toBitVec.toNat = n := Nat.mod_eq_of_lt h
theorem pk_shl (a s : Int32) (k : Nat) (hs : (s.toBitVec.smod 32).toNat = k) : (a <<< s).toBitVec.toNat = a.toBitVec.toNat * 2 ^ k % 2 ^ 32 := by
  show (a.toBitVec <<< (s.toBitVec.smod 32).toNat).toNat = _
  rw [hs, BitVec.toNat_shiftLeft, Nat.shiftLeft_eq]
theorem pk_shlN {n : Nat} (s : Int32) (k : Nat) (hs : (s.toBitVec.smod 32).toNat = k) (h : n * 2 ^ k < 2 ^ 32) : nI n <<< s = nI (n * 2 ^ k) := by
  apply Int32.toBitVec_inj.mp
  apply BitVec.eq_of_toNat_eq
  have hn : n < 2 ^ 32 := Nat.lt_of_le_of_lt (Nat.le_mul_of_pos_right n (Nat.two_pow_pos k)) h
  rw [pk_shl _ _ k hs, pk_tn hn, pk_tn h, Nat.mod_eq_of_lt h]
theorem pk_shr (a s : Int32) (k : Nat) (hs : (s.toBitVec.smod 32).toNat = k) : (a >>> s).toInt = a.toInt >>> k := by
  show (a.toBitVec.sshiftRight (s.toBitVec.smod 32).toNat).toInt = _
  rw [hs, BitVec.toInt_sshiftRight]
  rfl
theorem pk_shrN {n : Nat} (h : n < 2 ^ 31) (s : Int32) (k : Nat) (hs : (s.toBitVec.smod 32).toNat = k) : nI n >>> s = nI (n / 2 ^ k) := by
  apply Int32.toInt_inj.mp
  have h2 : n / 2 ^ k ≤ n := Nat.div_le_self _ _
  rw [pk_shr _ _ k hs, nI_toInt h, nI_toInt (by omega), Int.shiftRight_eq_div_pow]
  rfl
theorem pk_loop {σ : Type} (W : Nat → Nat → σ → Prop) (I : Nat → σ → Prop) (e i0 : Nat) (s : σ) (hi : i0 ≤ e) (h0 : I i0 s) (hx : ∀ n s, I e s → W (n + 1) e s)
    (hs : ∀ n i s, i < e → I i s → (∀ s', I (i + 1) s' → W n (i + 1) s') → W (n + 1) i s) : ∃ n, W n i0 s :=
  ⟨e + 1, loop_i W I e hx hs (e + 1) i0 s hi (by omega) h0⟩
theorem pk_loopD {σ : Type} (W : Nat → Nat → σ → Prop) (I : Nat → σ → Prop) (hx : ∀ n s, I 0 s → W (n + 1) 0 s)
    (hs : ∀ n i s, I (i + 1) s → (∀ s', I i s' → W n i s') → W (n + 1) (i + 1) s) : ∀ (e : Nat) (s : σ), I e s → W (e + 1) e s := by
  intro e
  induction e with
  | zero => exact fun s h => hx 0 s h
  | succ e ih => exact fun s h => hs (e + 1) e s h (fun s' h' => ih s' h')
theorem lp1 {A1 : Type} (W : Nat → A1 → Prop) (I : A1 → Prop) (μ : A1 → Nat) (hs : ∀ (n : Nat) (a1 : A1), I a1 → (∀ (b1 : A1), I b1 → μ b1 < μ a1 → W n b1) → W (n + 1) a1) (a1 : A1) (h : I a1) : ∃ n, W n a1 :=
  loop_m (σ := A1) (fun n s => W n s) (fun s => I s) (fun s => μ s) (fun n s hI hk => hs n s hI (fun b1 h9 hm => hk b1 h9 hm)) a1 h
theorem lp2 {A1 A2 : Type} (W : Nat → A1 → A2 → Prop) (I : A1 → A2 → Prop) (μ : A1 → A2 → Nat) (hs : ∀ (n : Nat) (a1 : A1) (a2 : A2), I a1 a2 → (∀ (b1 : A1) (b2 : A2), I b1 b2 → μ b1 b2 < μ a1 a2 → W n b1 b2) → W (n + 1) a1 a2) (a1 : A1) (a2 : A2) (h : I a1 a2) : ∃ n, W n a1 a2 :=
  loop_m (σ := A1 × A2) (fun n s => W n s.1 s.2) (fun s => I s.1 s.2) (fun s => μ s.1 s.2) (fun n s hI hk => hs n s.1 s.2 hI (fun b1 b2 h9 hm => hk (b1, b2) h9 hm)) (a1, a2) h
theorem lp3 {A1 A2 A3 : Type} (W : Nat → A1 → A2 → A3 → Prop) (I : A1 → A2 → A3 → Prop) (μ : A1 → A2 → A3 → Nat) (hs : ∀ (n : Nat) (a1 : A1) (a2 : A2) (a3 : A3), I a1 a2 a3 → (∀ (b1 : A1) (b2 : A2) (b3 : A3), I b1 b2 b3 → μ b1 b2 b3 < μ a1 a2 a3 → W n b1 b2 b3) → W (n + 1) a1 a2 a3) (a1 : A1) (a2 : A2) (a3 : A3) (h : I a1 a2 a3) : ∃ n, W n a1 a2 a3 :=
  loop_m (σ := A1 × A2 × A3) (fun n s => W n s.1 s.2.1 s.2.2) (fun s => I s.1 s.2.1 s.2.2) (fun s => μ s.1 s.2.1 s.2.2) (fun n s hI hk => hs n s.1 s.2.1 s.2.2 hI (fun b1 b2 b3 h9 hm => hk (b1, b2, b3) h9 hm)) (a1, a2, a3) h
theorem lp4 {A1 A2 A3 A4 : Type} (W : Nat → A1 → A2 → A3 → A4 → Prop) (I : A1 → A2 → A3 → A4 → Prop) (μ : A1 → A2 → A3 → A4 → Nat) (hs : ∀ (n : Nat) (a1 : A1) (a2 : A2) (a3 : A3) (a4 : A4), I a1 a2 a3 a4 → (∀ (b1 : A1) (b2 : A2) (b3 : A3) (b4 : A4), I b1 b2 b3 b4 → μ b1 b2 b3 b4 < μ a1 a2 a3 a4 → W n b1 b2 b3 b4) → W (n + 1) a1 a2 a3 a4) (a1 : A1) (a2 : A2) (a3 : A3) (a4 : A4) (h : I a1 a2 a3 a4) : ∃ n, W n a1 a2 a3 a4 :=
  loop_m (σ := A1 × A2 × A3 × A4) (fun n s => W n s.1 s.2.1 s.2.2.1 s.2.2.2) (fun s => I s.1 s.2.1 s.2.2.1 s.2.2.2) (fun s => μ s.1 s.2.1 s.2.2.1 s.2.2.2) (fun n s hI hk => hs n s.1 s.2.1 s.2.2.1 s.2.2.2 hI (fun b1 b2 b3 b4 h9 hm => hk (b1, b2, b3, b4) h9 hm)) (a1, a2, a3, a4) h
theorem lp5 {A1 A2 A3 A4 A5 : Type} (W : Nat → A1 → A2 → A3 → A4 → A5 → Prop) (I : A1 → A2 → A3 → A4 → A5 → Prop) (μ : A1 → A2 → A3 → A4 → A5 → Nat) (hs : ∀ (n : Nat) (a1 : A1) (a2 : A2) (a3 : A3) (a4 : A4) (a5 : A5), I a1 a2 a3 a4 a5 → (∀ (b1 : A1) (b2 : A2) (b3 : A3) (b4 : A4) (b5 : A5), I b1 b2 b3 b4 b5 → μ b1 b2 b3 b4 b5 < μ a1 a2 a3 a4 a5 → W n b1 b2 b3 b4 b5) → W (n + 1) a1 a2 a3 a4 a5) (a1 : A1) (a2 : A2) (a3 : A3) (a4 : A4) (a5 : A5) (h : I a1 a2 a3 a4 a5) : ∃ n, W n a1 a2 a3 a4 a5 :=
  loop_m (σ := A1 × A2 × A3 × A4 × A5) (fun n s => W n s.1 s.2.1 s.2.2.1 s.2.2.2.1 s.2.2.2.2) (fun s => I s.1 s.2.1 s.2.2.1 s.2.2.2.1 s.2.2.2.2) (fun s => μ s.1 s.2.1 s.2.2.1 s.2.2.2.1 s.2.2.2.2) (fun n s hI hk => hs n s.1 s.2.1 s.2.2.1 s.2.2.2.1 s.2.2.2.2 hI (fun b1 b2 b3 b4 b5 h9 hm => hk (b1, b2, b3, b4, b5) h9 hm)) (a1, a2, a3, a4, a5) h
def bt (x : Int32) (i : Nat) : Bool := x.toBitVec.getLsbD i
theorem b_ext {x y : Int32} (h : ∀ i, i < 32 → bt x i = bt y i) : x = y := Int32.toBitVec_inj.mp (BitVec.eq_of_getLsbD_eq (fun i hi => h i hi))
theorem b_or (x y : Int32) (i : Nat) : bt (x ||| y) i = (bt x i || bt y i) := by unfold bt; rw [Int32.toBitVec_or, BitVec.getLsbD_or]
theorem b_and (x y : Int32) (i : Nat) : bt (x &&& y) i = (bt x i && bt y i) := by unfold bt; rw [Int32.toBitVec_and, BitVec.getLsbD_and]
theorem b_xor (x y : Int32) (i : Nat) : bt (x ^^^ y) i = (bt x i ^^ bt y i) := by unfold bt; rw [Int32.toBitVec_xor, BitVec.getLsbD_xor]
theorem b_big {x : Int32} {i : Nat} (h : 32 ≤ i) : bt x i = false := BitVec.getLsbD_of_ge _ _ h
theorem b_m1 : ∀ i, i < 32 → bt (-1) i = true := by decide +kernel
theorem b_0 (i : Nat) : bt 0 i = false := BitVec.getLsbD_zero
theorem s_l : ∀ n, n < 32 → ((nI n &&& 31).toBitVec.smod 32).toNat = n := by decide +kernel
theorem b_shl (n : Nat) (hn : n < 32) (x : Int32) {i : Nat} (hi : i < 32) : bt (x <<< (nI n &&& 31)) i = (decide (n ≤ i) && bt x (i - n)) := by
  unfold bt
  rw [Int32.toBitVec_shiftLeft]
  show (x.toBitVec <<< ((nI n &&& 31).toBitVec.smod 32).toNat).getLsbD i = _
  rw [s_l n hn, BitVec.getLsbD_shiftLeft]
  rcases Nat.lt_or_ge i n with h | h
  · simp [h, Nat.not_le.mpr h]
  · simp [hi, h, Nat.not_lt.mpr h]
theorem b_sshr (n : Nat) (hn : n < 32) (x : Int32) {i : Nat} (hi : i < 32) : bt (x >>> (nI n &&& 31)) i = if n + i < 32 then bt x (n + i) else bt x 31 := by
  unfold bt
  rw [Int32.toBitVec_shiftRight]
  show (x.toBitVec.sshiftRight ((nI n &&& 31).toBitVec.smod 32).toNat).getLsbD i = _
  rw [s_l n hn, BitVec.getLsbD_sshiftRight, BitVec.msb_eq_getLsbD_last]
  simp [hi]
theorem nx_and (a b : Nat) : nI a &&& nI b = nI (a &&& b) := by
  apply Int32.toBitVec_inj.1
  show BitVec.ofNat 32 a &&& BitVec.ofNat 32 b = BitVec.ofNat 32 (a &&& b)
  apply BitVec.eq_of_getLsbD_eq
  intro i hi
  simp [hi]
end
section
/-! an int by its bits -/
theorem ce_b1 (i : Nat) : bt 1 i = decide (i = 0) := by
  rcases Nat.lt_or_ge i 32 with h | h
  · exact (by decide +kernel : ∀ i, i < 32 → bt 1 i = decide (i = 0)) i h
  · rw [b_big h, decide_eq_false (by omega)]
theorem ce_bit (x : Int32) {e : Nat} (he : e < 32) : (x >>> (nI e &&& 31)) &&& 1 = nI (bt x e).toNat := by
  apply b_ext
  intro i hi
  rw [b_and, b_sshr e he x hi, ce_b1]
  by_cases h0 : i = 0
  · rw [h0, if_pos (by omega), Nat.add_zero, decide_eq_true rfl, Bool.and_true]
    cases bt x e with
    | false => exact (b_0 0).symm
    | true => exact (by decide +kernel : true = bt 1 0)
  · rw [decide_eq_false h0, Bool.and_false]
    cases bt x e with
    | false => exact (b_0 i).symm
    | true =>
      show false = bt 1 i
      rw [ce_b1, decide_eq_false h0]
theorem ce_n01 : ¬ nI 0 = 1 ∧ nI 1 = 1 ∧ nI 0 = 0 ∧ ¬ nI 1 = 0 := by decide +kernel
theorem ce_t1 (b : Bool) : nI b.toNat = 1 ↔ b = true := by
  cases b with
  | false => exact ⟨fun h => absurd h ce_n01.1, fun h => Bool.noConfusion h⟩
  | true => exact ⟨fun _ => rfl, fun _ => ce_n01.2.1⟩
theorem ce_t0 (b : Bool) : nI b.toNat = 0 ↔ b = false := by
  cases b with
  | false => exact ⟨fun _ => rfl, fun _ => ce_n01.2.2.1⟩
  | true => exact ⟨fun h => absurd h ce_n01.2.2.2, fun h => Bool.noConfusion h⟩
theorem ce_bit1 (x : Int32) {e : Nat} (he : e < 32) : (x >>> (nI e &&& 31)) &&& 1 = 1 ↔ bt x e = true := by rw [ce_bit x he, ce_t1]
theorem ce_bit0 (x : Int32) {e : Nat} (he : e < 32) : (x >>> (nI e &&& 31)) &&& 1 = 0 ↔ bt x e = false := by rw [ce_bit x he, ce_t0]
theorem ce_sh : ∀ c, c < 31 → (1 : Int32) <<< (nI c &&& 31) = nI (2 ^ c) := by decide +kernel
theorem ce_1sh {u i : Nat} (hu : u < 32) (hi : i < 32) : bt ((1 : Int32) <<< (nI u &&& 31)) i = decide (i = u) := by
  rw [b_shl u hu 1 hi, ce_b1]
  by_cases h : i = u
  · rw [h, decide_eq_true (Nat.le_refl u), Nat.sub_self, decide_eq_true rfl, decide_eq_true rfl]
    try rfl
  · rw [decide_eq_false h]
    by_cases h2 : u ≤ i
    · rw [decide_eq_false (by omega : ¬ i - u = 0), Bool.and_false]
    · rw [decide_eq_false h2, Bool.false_and]
theorem ce_or1 (x : Int32) {u i : Nat} (hu : u < 32) (hi : i < 32) : bt (x ||| ((1 : Int32) <<< (nI u &&& 31))) i = (bt x i || decide (i = u)) := by
  rw [b_or, ce_1sh hu hi]
theorem ce_eq {x y : Int32} : x = y ↔ ∀ i, i < 32 → bt x i = bt y i := ⟨fun h i _ => by rw [h], b_ext⟩
theorem ce_and0 {x y : Int32} : x &&& y = 0 ↔ ∀ i, i < 32 → (bt x i && bt y i) = false := by
  rw [ce_eq]
  constructor
  · intro h i hi
    rw [← b_and, h i hi, b_0]
  · intro h i hi
    rw [b_and, h i hi, b_0]
theorem ce_not (y : Int32) {i : Nat} (hi : i < 32) : bt (y ^^^ (-1)) i = !bt y i := by
  rw [b_xor, b_m1 i hi, Bool.xor_true]
theorem ce_sub0 {x y : Int32} : x &&& (y ^^^ (-1)) = 0 ↔ ∀ i, i < 32 → bt x i = true → bt y i = true := by
  rw [ce_and0]
  constructor
  · intro h i hi hx
    have := h i hi
    rw [ce_not y hi, hx, Bool.true_and] at this
    cases hy : bt y i with
    | true => rfl
    | false => rw [hy] at this; exact Bool.noConfusion this
  · intro h i hi
    rw [ce_not y hi]
    cases hx : bt x i with
    | false => rfl
    | true => rw [h i hi hx]; try rfl
theorem ce_nI (S : Nat) {i : Nat} (hi : i < 32) : bt (nI S) i = S.testBit i := by
  show (BitVec.ofNat 32 S).getLsbD i = _
  rw [BitVec.getLsbD_ofNat, decide_eq_true hi, Bool.true_and]
theorem ce_nor (a b : Nat) : nI a ||| nI b = nI (a ||| b) := by
  apply b_ext
  intro i hi
  rw [b_or, ce_nI a hi, ce_nI b hi, ce_nI _ hi, Nat.testBit_or]
theorem ce_ors (x : Int32) : x ||| x = x := by
  apply b_ext
  intro i _
  rw [b_or, Bool.or_self]
/-! reaching down, as X finds it -/
def ce_VT (B : Nat → Nat → Bool) (n : Nat) : Prop := ∀ t x u, t < 16 → x < n → B t x = true → B x u = true → B t u = true
theorem ce_VT_s {B B' : Nat → Nat → Bool} {n : Nat} (hn : n < 16) (h : ce_VT B n) (hB : ∀ t, t < 16 → ∀ u, B' t u = (B t u || (B t n && B n u))) : ce_VT B' (n + 1) := by
  intro t x u ht hx h1 h2
  rw [hB t ht, Bool.or_eq_true, Bool.and_eq_true] at h1
  rw [hB x (by omega), Bool.or_eq_true, Bool.and_eq_true] at h2
  rw [hB t ht, Bool.or_eq_true, Bool.and_eq_true]
  rcases Nat.lt_or_ge x n with hl | hl
  · rcases h1 with h1 | ⟨h1, h3⟩
    · rcases h2 with h2 | ⟨h2, h4⟩
      · exact Or.inl (h t x u ht hl h1 h2)
      · exact Or.inr ⟨h t x n ht hl h1 h2, h4⟩
    · rcases h2 with h2 | ⟨h2, h4⟩
      · exact Or.inr ⟨h1, h n x u hn hl h3 h2⟩
      · exact Or.inr ⟨h1, h4⟩
  · have e : x = n := by omega
    rw [e] at h1 h2
    have h5 : B t n = true := by
      rcases h1 with h1 | ⟨h1, _⟩
      · exact h1
      · exact h1
    have h6 : B n u = true := by
      rcases h2 with h2 | ⟨_, h2⟩
      · exact h2
      · exact h2
    exact Or.inr ⟨h5, h6⟩
theorem ce_VT_0 (B : Nat → Nat → Bool) : ce_VT B 0 := fun _ x _ _ hx => absurd hx (Nat.not_lt_zero x)
theorem ce_th16 {w h t : Nat} (hw : w ≤ 8) (hh : h ≤ 8) (ht : cd_th w h t = true) : t < 16 := by
  have := cd_th_iff.mp ht
  omega
def ce_In (A : Nat → Nat → Bool) (w h n : Nat) (B : Nat → Nat → Bool) : Prop :=
  (∀ t u, t < 16 → B t u = true → cd_rr A w h t u = true) ∧
  (∀ t, t < 16 → cd_th w h t = true → B t t = true) ∧
  (∀ t u, t < 16 → cd_ab A w h t u = true → B t u = true) ∧ ce_VT B n
theorem ce_In_s {A : Nat → Nat → Bool} {w h n : Nat} {B B' : Nat → Nat → Bool} (hw : w ≤ 8) (hn : n < 16) (I : ce_In A w h n B) (hB : ∀ t, t < 16 → ∀ u, B' t u = (B t u || (B t n && B n u))) : ce_In A w h (n + 1) B' := by
  obtain ⟨h1, h2, h3, h4⟩ := I
  refine ⟨?_, ?_, ?_, ce_VT_s hn h4 hB⟩
  · intro t u ht hb
    rw [hB t ht, Bool.or_eq_true, Bool.and_eq_true] at hb
    rcases hb with hb | ⟨hb, hb'⟩
    · exact h1 t u ht hb
    · exact (cd_rr_Cl A hw).2.1 t n u (h1 t n ht hb) (h1 n u hn hb')
  · intro t ht htt
    rw [hB t ht, h2 t ht htt]
    try rfl
  · intro t u ht htu
    rw [hB t ht, h3 t u ht htu]
    try rfl
theorem ce_In_e {A : Nat → Nat → Bool} {w h : Nat} {B : Nat → Nat → Bool} (hw : w ≤ 8) (hh : h ≤ 8) (I : ce_In A w h 16 B) {t : Nat} (ht : t < 16) (u : Nat) : B t u = cd_rr A w h t u := by
  obtain ⟨h1, h2, h3, h4⟩ := I
  apply Bool.eq_iff_iff.mpr
  refine ⟨h1 t u ht, fun e => ?_⟩
  obtain ⟨q1, q2, q3⟩ := cd_rr_iff.mp e
  refine q3 (fun z => B t z = true) (h2 t ht q1) ?_
  intro x y hx hxy
  have hx16 := ce_th16 hw hh (cd_ab_th hxy).1
  exact h4 t x y ht hx16 hx (h3 x y hx16 hxy)
/-! reaching up, as the reference finds it -/
theorem ce_up {A : Nat → Nat → Bool} {w h : Nat} {M : Nat → Nat → Bool} (hw : w ≤ 8) (hh : h ≤ 8)
    (h1 : ∀ t, t < 16 → M t t = true) (h2 : ∀ t x, t < 16 → cd_th w h t = true → M t x = true → cd_rr A w h x t = true)
    (h3 : ∀ t u x, t < 16 → u < 16 → cd_ab A w h u t = true → M u x = true → M t x = true) {t : Nat} (ht : cd_th w h t = true) (x : Nat) : M t x = cd_rr A w h x t := by
  apply Bool.eq_iff_iff.mpr
  refine ⟨h2 t x (ce_th16 hw hh ht) ht, fun e => ?_⟩
  obtain ⟨q1, q2, q3⟩ := cd_rr_iff.mp e
  refine q3 (fun z => M z x = true) (h1 x (ce_th16 hw hh q1)) ?_
  intro y z hy hyz
  obtain ⟨t1, t2⟩ := cd_ab_th hyz
  exact h3 z y x (ce_th16 hw hh t2) (ce_th16 hw hh t1) hyz hy
/-- how many bits of the sixteen rows are not set -/
def ce_mu (m : Nat → Int32) : Nat := cd_sm (fun t => cd_cn (fun i => !bt (m t) i) 32) 16
theorem ce_sm_le {f g : Nat → Nat} {n : Nat} (h : ∀ i, i < n → f i ≤ g i) : cd_sm f n ≤ cd_sm g n := by
  induction n with
  | zero => exact Nat.le_refl 0
  | succ n ih =>
    rw [cd_sm_s, cd_sm_s]
    exact Nat.add_le_add (ih (fun i hi => h i (by omega))) (h n (by omega))
theorem ce_sm_lt {f g : Nat → Nat} {n k : Nat} (h : ∀ i, i < n → f i ≤ g i) (hk : k < n) (hlt : f k < g k) : cd_sm f n < cd_sm g n := by
  induction n with
  | zero => omega
  | succ n ih =>
    rw [cd_sm_s, cd_sm_s]
    have h1 := h n (by omega)
    rcases Nat.lt_or_ge k n with hl | hl
    · have := ih (fun i hi => h i (by omega)) hl
      omega
    · have e : k = n := by omega
      have h2 := ce_sm_le (n := n) (fun i hi => h i (by omega))
      rw [e] at hlt
      omega
theorem ce_cn_lt {p q : Nat → Bool} {n k : Nat} (h : ∀ i, i < n → p i = true → q i = true) (hk : k < n) (hp : p k = false) (hq : q k = true) : cd_cn p n < cd_cn q n := by
  have h1 := cd_cn_rm (M' := fun i => q i && !decide (i = k)) hk hq (fun _ _ => rfl)
  have h2 : cd_cn p n ≤ cd_cn (fun i => q i && !decide (i = k)) n := by
    apply cd_cn_imp
    intro i hi hpi
    try dsimp only
    have hik : ¬ i = k := fun e => by
      rw [e] at hpi
      exact cd_tf hp hpi
    rw [h i hi hpi, decide_eq_false hik]
    try rfl
  omega
theorem ce_mu_lt (m : Nat → Int32) {t u : Nat} (ht : t < 16) (h : ¬ m u &&& (m t ^^^ (-1)) = 0) : ce_mu (upd m t (m t ||| m u)) < ce_mu m := by
  have hex : ∃ i, i < 32 ∧ bt (m u) i = true ∧ bt (m t) i = false := by
    apply Classical.byContradiction
    intro hno
    apply h
    rw [ce_sub0]
    intro i hi hx
    cases hy : bt (m t) i with
    | true => rfl
    | false => exact absurd ⟨i, hi, hx, hy⟩ hno
  obtain ⟨i, hi, hx, hy⟩ := hex
  have hle : ∀ s, cd_cn (fun i => !bt (upd m t (m t ||| m u) s) i) 32 ≤ cd_cn (fun i => !bt (m s) i) 32 := by
    intro s
    apply cd_cn_imp
    intro j _ hj
    by_cases e : s = t
    · rw [e, pk_us, b_or] at hj
      rw [e]
      cases hb : bt (m t) j with
      | false => rfl
      | true => rw [hb] at hj; exact hj
    · rw [pk_un e] at hj
      exact hj
  unfold ce_mu
  refine ce_sm_lt (fun s _ => hle s) ht ?_
  refine ce_cn_lt (k := i) (fun j _ hj => ?_) hi ?_ ?_
  · rw [pk_us, b_or] at hj
    cases hb : bt (m t) j with
    | false => rfl
    | true => rw [hb] at hj; exact hj
  · rw [pk_us, b_or, hx, Bool.or_true]
    try rfl
  · rw [hy]
    try rfl
end
section
/-! the longest run; counts within a limit; rows that are alike; what can be lifted off -/
def cf_st (p : Nat → Bool) (i : Nat) (q : Nat × Nat) : Nat × Nat :=
  let run := cond (decide (0 < i) && (p i == p (i - 1))) (q.1 + 1) 1
  (run, if q.2 < run then run else q.2)
def cf_rb (p : Nat → Bool) : Nat → Nat × Nat
  | 0 => (0, 0)
  | i + 1 => cf_st p i (cf_rb p i)
theorem cf_rb_s (p : Nat → Bool) (i : Nat) : cf_rb p (i + 1) = cf_st p i (cf_rb p i) := rfl
theorem cf_rb_le (p : Nat → Bool) (i : Nat) : (cf_rb p i).1 ≤ i ∧ (cf_rb p i).2 ≤ i := by
  induction i with
  | zero => exact ⟨Nat.le_refl 0, Nat.le_refl 0⟩
  | succ i ih =>
    rw [cf_rb_s]
    have h1 : (cf_st p i (cf_rb p i)).1 ≤ i + 1 := by
      show cond (decide (0 < i) && (p i == p (i - 1))) ((cf_rb p i).1 + 1) 1 ≤ i + 1
      cases (decide (0 < i) && (p i == p (i - 1))) with
      | false => show 1 ≤ i + 1; omega
      | true => show (cf_rb p i).1 + 1 ≤ i + 1; omega
    refine ⟨h1, ?_⟩
    show (if (cf_rb p i).2 < (cf_st p i (cf_rb p i)).1 then (cf_st p i (cf_rb p i)).1 else (cf_rb p i).2) ≤ i + 1
    split
    · exact h1
    · omega
theorem cf_rb_c {p q : Nat → Bool} {n : Nat} (h : ∀ i, i < n → p i = q i) : cf_rb p n = cf_rb q n := by
  induction n with
  | zero => rfl
  | succ n ih =>
    rw [cf_rb_s, cf_rb_s, ih (fun i hi => h i (by omega))]
    unfold cf_st
    rw [h n (by omega), h (n - 1) (by omega)]
theorem cf_lim (p : Nat → Bool) {a N : Nat} (h : a ≤ N) : cd_cn (fun i => decide (i < a) && p i) N = cd_cn p a := by
  obtain ⟨c, rfl⟩ : ∃ c, N = a + c := ⟨N - a, by omega⟩
  rw [cd_cn_add, cd_cn_c (q := p) (fun i hi => by rw [decide_eq_true hi, Bool.true_and]), cd_cn_f (n := c) (fun i _ => by rw [decide_eq_false (by omega), Bool.false_and]), Nat.add_zero]
def cf_nw (e : Nat → Nat → Bool) (f t : Nat) : Bool := decide (∀ s, s < t → f ≤ s → e s t = false)
theorem cf_nw_iff {e : Nat → Nat → Bool} {f t : Nat} : cf_nw e f t = true ↔ ∀ s, s < t → f ≤ s → e s t = false := by
  unfold cf_nw
  rw [decide_eq_true_eq]
theorem cf_nw_c {e e' : Nat → Nat → Bool} {f t : Nat} (h : ∀ s, s < t → f ≤ s → e s t = e' s t) : cf_nw e f t = cf_nw e' f t := by
  apply Bool.eq_iff_iff.mpr
  rw [cf_nw_iff, cf_nw_iff]
  exact ⟨fun z s h1 h2 => by rw [← h s h1 h2]; exact z s h1 h2, fun z s h1 h2 => by rw [h s h1 h2]; exact z s h1 h2⟩
/-! thread t against the k-th thread that crosses it -/
def cf_sh (A : Nat → Nat → Bool) (t k : Nat) : Bool := if t < 8 then A t k else !A k (t - 8)
def cf_cr (w h t : Nat) : Nat := if t < 8 then h else w
def cf_al (A : Nat → Nat → Bool) (w h t u : Nat) : Bool := decide (∀ k, k < cf_cr w h t → cf_sh A t k = cf_sh A u k)
theorem cf_al_iff {A : Nat → Nat → Bool} {w h t u : Nat} : cf_al A w h t u = true ↔ ∀ k, k < cf_cr w h t → cf_sh A t k = cf_sh A u k := by
  unfold cf_al
  rw [decide_eq_true_eq]
theorem cf_abw {A : Nat → Nat → Bool} {w h t : Nat} (hw : w ≤ 8) (ht : t < w) (i : Nat) : cd_ab A w h t i = (decide (8 ≤ i) && (decide (i < 8 + h) && cf_sh A t (i - 8))) := by
  unfold cd_ab cf_sh
  rw [decide_eq_true ht, decide_eq_false (by omega : ¬ 8 ≤ t), Bool.true_and, Bool.false_and, Bool.or_false, if_pos (by omega)]
theorem cf_abf {A : Nat → Nat → Bool} {w h t : Nat} (hw : w ≤ 8) (ht : 8 ≤ t) (ht' : t < 8 + h) (i : Nat) : cd_ab A w h t i = (decide (i < w) && cf_sh A t i) := by
  unfold cd_ab cf_sh
  rw [decide_eq_true ht, decide_eq_true ht', decide_eq_false (by omega : ¬ t < w), Bool.false_and, Bool.false_or, Bool.true_and, Bool.true_and, if_neg (by omega)]
theorem cf_over {A : Nat → Nat → Bool} {w h t : Nat} (hw : w ≤ 8) (hh : h ≤ 8) (ht : cd_th w h t = true) : cd_cn (cd_ab A w h t) 16 = cd_cn (cf_sh A t) (cf_cr w h t) := by
  rcases cd_th_iff.mp ht with q | ⟨q, q'⟩
  · have e : cf_cr w h t = h := if_pos (by omega)
    rw [e, show 16 = 8 + 8 from rfl, cd_cn_add, cd_cn_f (n := 8) (p := cd_ab A w h t), Nat.zero_add, ← cf_lim (cf_sh A t) hh]
    · apply cd_cn_c
      intro i _
      try dsimp only
      rw [cf_abw hw q, decide_eq_true (by omega), Bool.true_and, Nat.add_sub_cancel_left]
      congr 1
      apply Bool.eq_iff_iff.mpr
      rw [decide_eq_true_eq, decide_eq_true_eq]
      omega
    · intro i hi
      rw [cf_abw hw q, decide_eq_false (by omega), Bool.false_and]
  · have e : cf_cr w h t = w := if_neg (by omega)
    rw [e, ← cf_lim (cf_sh A t) (by omega : w ≤ 16)]
    apply cd_cn_c
    intro i _
    exact cf_abf hw q q' i
/-- two threads of one side are above the same threads just if they are alike -/
theorem cf_alike {A : Nat → Nat → Bool} {w h s t : Nat} (hw : w ≤ 8) (hh : h ≤ 8) (hs : cd_th w h s = true) (ht : cd_th w h t = true) (hst : s < 8 ↔ t < 8) : (∀ i, i < 32 → cd_ab A w h s i = cd_ab A w h t i) ↔ cf_al A w h t s = true := by
  rw [cf_al_iff]
  rcases cd_th_iff.mp ht with q | ⟨q, q'⟩
  · have hs' : s < w := by
      have := cd_th_iff.mp hs
      omega
    have e : cf_cr w h t = h := if_pos (by omega)
    rw [e]
    constructor
    · intro z k hk
      have := z (8 + k) (by omega)
      rw [cf_abw hw hs', cf_abw hw q, decide_eq_true (by omega), decide_eq_true (by omega), Bool.true_and, Bool.true_and, Bool.true_and, Bool.true_and, Nat.add_sub_cancel_left] at this
      exact this.symm
    · intro z i _
      rw [cf_abw hw hs', cf_abw hw q]
      by_cases h8 : 8 ≤ i
      · by_cases hi : i < 8 + h
        · rw [z (i - 8) (by omega)]
        · rw [decide_eq_false hi, Bool.false_and, Bool.false_and]
      · rw [decide_eq_false h8, Bool.false_and, Bool.false_and]
  · have hs' : 8 ≤ s ∧ s < 8 + h := by
      have := cd_th_iff.mp hs
      omega
    have e : cf_cr w h t = w := if_neg (by omega)
    rw [e]
    constructor
    · intro z k hk
      have := z k (by omega)
      rw [cf_abf hw hs'.1 hs'.2, cf_abf hw q q', decide_eq_true hk, Bool.true_and, Bool.true_and] at this
      exact this.symm
    · intro z i _
      rw [cf_abf hw hs'.1 hs'.2, cf_abf hw q q']
      by_cases hi : i < w
      · rw [z i hi]
      · rw [decide_eq_false hi, Bool.false_and, Bool.false_and]
def cf_lfn (N : Nat) (A : Nat → Nat → Bool) (w h : Nat) (S : Nat → Bool) : Bool := decide (∀ t, t < N → S t = false → ∀ u, u < N → S u = true → cd_ab A w h t u = false)
def cf_lift (A : Nat → Nat → Bool) (w h : Nat) (S : Nat → Bool) : Bool := cf_lfn 16 A w h S
theorem cf_lift_iff {A : Nat → Nat → Bool} {w h : Nat} {S : Nat → Bool} : cf_lift A w h S = true ↔ ∀ t, t < 16 → S t = false → ∀ u, u < 16 → S u = true → cd_ab A w h t u = false := by
  unfold cf_lift cf_lfn
  rw [decide_eq_true_eq]
end
section
/-! what one step of a loop does to an array, by bits -/
theorem cg_if {c : Prop} {b : Bool} {A B : Prop} (e : c ↔ b = true) (f : b = true → A) (g : b = false → B) : (c → A) ∧ (¬ c → B) :=
  ⟨fun h => f (e.mp h), fun h => g (cd_nt (fun z => h (e.mpr z)))⟩
theorem cg_fi {c : Prop} {b : Bool} {A B : Prop} (e : c ↔ b = false) (f : b = true → B) (g : b = false → A) : (c → A) ∧ (¬ c → B) :=
  ⟨fun h => g (e.mp h), fun h => by
    cases hb : b with
    | true => exact f hb
    | false => exact absurd (e.mpr hb) h⟩
theorem cg_10 : ¬ (1 : Int32) = 0 := by decide
theorem cg_01 : ¬ (0 : Int32) = 1 := by decide
theorem cg_bb {a b : Bool} : nI a.toNat = nI b.toNat ↔ a = b := by
  cases a <;> cases b <;> decide +kernel
/-- the pairs (c, r) that are done -/
def cg_U (A : Nat → Nat → Bool) (Q : Nat → Nat → Prop) (t i : Nat) : Prop :=
  (t < 8 ∧ 8 ≤ i ∧ Q t (i - 8) ∧ A t (i - 8) = true) ∨ (8 ≤ t ∧ i < 8 ∧ Q i (t - 8) ∧ A i (t - 8) = false)
def cg_Is (a : Nat → Int32) (P : Nat → Nat → Prop) : Prop := ∀ t i, t < 16 → i < 32 → (bt (a t) i = true ↔ P t i)
theorem cg_U_c {A : Nat → Nat → Bool} {Q Q' : Nat → Nat → Prop} (h : ∀ c r, Q c r ↔ Q' c r) (t i : Nat) : cg_U A Q t i ↔ cg_U A Q' t i := by
  unfold cg_U
  rw [h, h]
theorem cg_U_t {A : Nat → Nat → Bool} {Q Q' : Nat → Nat → Prop} {a : Nat → Int32} {c r : Nat} (I : cg_Is a (cg_U A Q)) (hc : c < 8) (hr : r < 8) (hQ : ∀ c' r', Q' c' r' ↔ Q c' r' ∨ (c' = c ∧ r' = r)) (hA : A c r = true) :
    cg_Is (upd a c (a c ||| ((1 : Int32) <<< (nI (8 + r) &&& 31)))) (cg_U A Q') := by
  intro t i ht hi
  by_cases e : t = c
  · rw [e, pk_us, ce_or1 _ (by omega) hi, Bool.or_eq_true, I c i (by omega) hi, decide_eq_true_eq]
    unfold cg_U
    rw [hQ, hQ]
    constructor
    · rintro ((z | z) | z)
      · exact Or.inl ⟨z.1, z.2.1, Or.inl z.2.2.1, z.2.2.2⟩
      · omega
      · refine Or.inl ⟨hc, by omega, Or.inr ⟨rfl, by omega⟩, ?_⟩
        rw [z, Nat.add_sub_cancel_left]
        exact hA
    · rintro (z | z)
      · rcases z.2.2.1 with q | q
        · exact Or.inl (Or.inl ⟨z.1, z.2.1, q, z.2.2.2⟩)
        · have h8 := z.2.1
          exact Or.inr (by omega)
      · omega
  · rw [pk_un e, I t i ht hi]
    unfold cg_U
    rw [hQ, hQ]
    constructor
    · rintro (z | z)
      · exact Or.inl ⟨z.1, z.2.1, Or.inl z.2.2.1, z.2.2.2⟩
      · exact Or.inr ⟨z.1, z.2.1, Or.inl z.2.2.1, z.2.2.2⟩
    · rintro (z | z)
      · rcases z.2.2.1 with q | q
        · exact Or.inl ⟨z.1, z.2.1, q, z.2.2.2⟩
        · exact absurd q.1 e
      · rcases z.2.2.1 with q | q
        · exact Or.inr ⟨z.1, z.2.1, q, z.2.2.2⟩
        · have z4 := z.2.2.2
          rw [q.1, q.2, hA] at z4
          exact Bool.noConfusion z4
theorem cg_U_f {A : Nat → Nat → Bool} {Q Q' : Nat → Nat → Prop} {a : Nat → Int32} {c r : Nat} (I : cg_Is a (cg_U A Q)) (hc : c < 8) (hr : r < 8) (hQ : ∀ c' r', Q' c' r' ↔ Q c' r' ∨ (c' = c ∧ r' = r)) (hA : A c r = false) :
    cg_Is (upd a (8 + r) (a (8 + r) ||| ((1 : Int32) <<< (nI c &&& 31)))) (cg_U A Q') := by
  intro t i ht hi
  by_cases e : t = 8 + r
  · rw [e, pk_us, ce_or1 _ (by omega) hi, Bool.or_eq_true, I (8 + r) i (by omega) hi, decide_eq_true_eq]
    unfold cg_U
    rw [hQ, hQ]
    constructor
    · rintro ((z | z) | z)
      · omega
      · exact Or.inr ⟨z.1, z.2.1, Or.inl z.2.2.1, z.2.2.2⟩
      · refine Or.inr ⟨by omega, by omega, Or.inr ⟨z, by omega⟩, ?_⟩
        rw [z, Nat.add_sub_cancel_left]
        exact hA
    · rintro (z | z)
      · omega
      · rcases z.2.2.1 with q | q
        · exact Or.inl (Or.inr ⟨z.1, z.2.1, q, z.2.2.2⟩)
        · exact Or.inr q.1
  · rw [pk_un e, I t i ht hi]
    unfold cg_U
    rw [hQ, hQ]
    constructor
    · rintro (z | z)
      · exact Or.inl ⟨z.1, z.2.1, Or.inl z.2.2.1, z.2.2.2⟩
      · exact Or.inr ⟨z.1, z.2.1, Or.inl z.2.2.1, z.2.2.2⟩
    · rintro (z | z)
      · rcases z.2.2.1 with q | q
        · exact Or.inl ⟨z.1, z.2.1, q, z.2.2.2⟩
        · have z4 := z.2.2.2
          rw [q.1, q.2, hA] at z4
          exact Bool.noConfusion z4
      · rcases z.2.2.1 with q | q
        · exact Or.inr ⟨z.1, z.2.1, q, z.2.2.2⟩
        · have z1 := z.1
          exact absurd (by omega : t = 8 + r) e
theorem cg_U_0 {A : Nat → Nat → Bool} {a : Nat → Int32} (h : ∀ t, t < 16 → a t = 0) : cg_Is a (cg_U A (fun _ _ => False)) := by
  intro t i ht _
  rw [h t ht, b_0]
  constructor
  · intro z
    exact Bool.noConfusion z
  · rintro (z | z)
    · exact z.2.2.1.elim
    · exact z.2.2.1.elim
/-- X's `under`: bit i of row t just if t is above i -/
def cg_Un (A : Nat → Nat → Bool) (w h : Nat) (a : Nat → Int32) : Prop := ∀ t i, t < 16 → i < 32 → bt (a t) i = cd_ab A w h t i
theorem cg_U_e {A : Nat → Nat → Bool} {w h : Nat} {a : Nat → Int32} (hw : w ≤ 8) (hh : h ≤ 8) (I : cg_Is a (cg_U A (fun c r => c < w ∧ r < h))) : cg_Un A w h a := by
  intro t i ht hi
  apply Bool.eq_iff_iff.mpr
  rw [I t i ht hi, cd_ab_iff]
  unfold cg_U
  constructor
  · rintro (z | z)
    · exact Or.inl ⟨z.2.2.1.1, z.2.1, by have := z.2.2.1.2; have := z.2.1; omega, z.2.2.2⟩
    · exact Or.inr ⟨z.1, by have := z.2.2.1.2; have := z.1; omega, z.2.2.1.1, z.2.2.2⟩
  · rintro (z | z)
    · exact Or.inl ⟨by omega, z.2.1, ⟨z.1, by have := z.2.2.1; have := z.2.1; omega⟩, z.2.2.2⟩
    · exact Or.inr ⟨z.1, by have := z.2.2.1; omega, ⟨z.2.2.1, by have := z.2.1; have := z.1; omega⟩, z.2.2.2⟩
/-- X's `beneath` -/
def cg_Be (r : Nat → Nat → Bool) (a : Nat → Int32) : Prop := ∀ t i, t < 16 → i < 32 → bt (a t) i = r t i
/-! one stage of X's closure, row by row -/
def cg_w1 (a : Nat → Int32) (n s : Nat) : Int32 := cond (bt (a s) n) (a s ||| a n) (a s)
def cg_wt (a : Nat → Int32) (n t s : Nat) : Int32 := if s < t then cg_w1 a n s else a s
theorem cg_w1_n (a : Nat → Int32) (n : Nat) : cg_w1 a n n = a n := by
  unfold cg_w1
  cases bt (a n) n with
  | false => rfl
  | true => exact ce_ors (a n)
theorem cg_wt_n (a : Nat → Int32) (n t : Nat) : cg_wt a n t n = a n := by
  unfold cg_wt
  split
  · exact cg_w1_n a n
  · rfl
theorem cg_wt_t (a : Nat → Int32) (n t : Nat) : cg_wt a n t t = a t := if_neg (Nat.lt_irrefl t)
theorem cg_wt_1 (a : Nat → Int32) (n t : Nat) (h : bt (a t) n = true) : upd (cg_wt a n t) t (a t ||| a n) = cg_wt a n (t + 1) := by
  funext s
  by_cases e : s = t
  · rw [e, pk_us]
    unfold cg_wt
    rw [if_pos (by omega)]
    unfold cg_w1
    rw [h]
    try rfl
  · rw [pk_un e]
    unfold cg_wt
    by_cases hl : s < t
    · rw [if_pos hl, if_pos (by omega)]
    · rw [if_neg hl, if_neg (by omega)]
theorem cg_wt_0 (a : Nat → Int32) (n t : Nat) (h : bt (a t) n = false) : cg_wt a n t = cg_wt a n (t + 1) := by
  funext s
  unfold cg_wt
  by_cases e : s = t
  · rw [e, if_neg (by omega), if_pos (by omega)]
    unfold cg_w1
    rw [h]
    try rfl
  · by_cases hl : s < t
    · rw [if_pos hl, if_pos (by omega)]
    · rw [if_neg hl, if_neg (by omega)]
theorem cg_wt_z (a : Nat → Int32) (n : Nat) : cg_wt a n 0 = a := by
  funext s
  exact if_neg (Nat.not_lt_zero s)
def cg_B (a : Nat → Int32) (t u : Nat) : Bool := bt (a t) u
theorem cg_wt_B (a : Nat → Int32) {n : Nat} : ∀ t, t < 16 → ∀ u, cg_B (cg_wt a n 16) t u = (cg_B a t u || (cg_B a t n && cg_B a n u)) := by
  intro t ht u
  show bt (cg_wt a n 16 t) u = (bt (a t) u || (bt (a t) n && bt (a n) u))
  unfold cg_wt
  rw [if_pos ht]
  unfold cg_w1
  cases h : bt (a t) n with
  | false =>
    rw [Bool.false_and, Bool.or_false]
    try rfl
  | true =>
    rw [Bool.true_and]
    exact b_or _ _ _
theorem cg_In_0 {A : Nat → Nat → Bool} {w h : Nat} {a : Nat → Int32} (hw : w ≤ 8) (hh : h ≤ 8) (ha : ∀ t i, t < 16 → i < 32 → bt (a t) i = (cd_th w h t && (decide (i = t) || cd_ab A w h t i))) : ce_In A w h 0 (cg_B a) := by
  refine ⟨?_, ?_, ?_, ce_VT_0 _⟩
  · intro t u ht hb
    have hu : u < 32 := by
      rcases Nat.lt_or_ge u 32 with hl | hl
      · exact hl
      · have : bt (a t) u = true := hb
        rw [b_big hl] at this
        exact Bool.noConfusion this
    have hb' : bt (a t) u = true := hb
    rw [ha t u ht hu, Bool.and_eq_true, Bool.or_eq_true, decide_eq_true_eq] at hb'
    rcases hb'.2 with e | e
    · rw [e, cd_rr_th]
      exact hb'.1
    · exact cd_rr_iff.mpr ⟨hb'.1, (cd_ab_th e).2, cd_R_1 e⟩
  · intro t ht htt
    show bt (a t) t = true
    rw [ha t t ht (by omega), htt, decide_eq_true rfl]
    try rfl
  · intro t u ht e
    have hu := ce_th16 hw hh (cd_ab_th e).2
    show bt (a t) u = true
    rw [ha t u ht (by omega), (cd_ab_th e).1, e, Bool.or_true]
    try rfl
theorem cg_In_s {A : Nat → Nat → Bool} {w h n : Nat} {a : Nat → Int32} (hw : w ≤ 8) (hn : n < 16) (I : ce_In A w h n (cg_B a)) : ce_In A w h (n + 1) (cg_B (cg_wt a n 16)) := ce_In_s hw hn I (cg_wt_B a)
theorem cg_In_e {A : Nat → Nat → Bool} {w h : Nat} {a : Nat → Int32} (hw : w ≤ 8) (hh : h ≤ 8) (I : ce_In A w h 16 (cg_B a)) : cg_Be (cd_rr A w h) a := fun t i ht _ => ce_In_e hw hh I ht i
/-! rows of `beneath` that are equal, and rows that are empty -/
theorem cg_be_eq {r : Nat → Nat → Bool} {a : Nat → Int32} (C : cd_Cl r) (I : cg_Be r a) {s t : Nat} (hs : s < 16) (ht : t < 16) (hr : r t t = true) : a s = a t ↔ cd_eq r s t = true := by
  rw [cd_eq_iff, ce_eq]
  constructor
  · intro h
    have h1 := h t (by omega)
    rw [I s t hs (by omega), I t t ht (by omega), hr] at h1
    have h2 := h s (by omega)
    rw [I s s hs (by omega), I t s ht (by omega), (C.1 s t h1).1] at h2
    exact ⟨h1, h2.symm⟩
  · rintro ⟨h1, h2⟩ i hi
    rw [I s i hs hi, I t i ht hi]
    apply Bool.eq_iff_iff.mpr
    exact ⟨fun z => C.2.1 t s i h2 z, fun z => C.2.1 s t i h1 z⟩
theorem cg_be_0 {r : Nat → Nat → Bool} {a : Nat → Int32} (C : cd_Cl r) (I : cg_Be r a) {t : Nat} (ht : t < 16) : a t = 0 ↔ r t t = false := by
  rw [ce_eq]
  constructor
  · intro h
    have := h t (by omega)
    rw [I t t ht (by omega), b_0] at this
    exact this
  · intro h i hi
    rw [I t i ht hi, b_0]
    exact cd_nt (fun z => cd_tf h (C.1 t i z).1)
end
section
/-! the reference's closure: `must` -/
def ch_Mu (A : Nat → Nat → Bool) (w h : Nat) (m : Nat → Int32) : Prop :=
  (∀ t, t < 16 → bt (m t) t = true) ∧ (∀ t x, t < 16 → bt (m t) x = true → x = t ∨ cd_rr A w h x t = true)
theorem ch_lt32 {x : Int32} {i : Nat} (h : bt x i = true) : i < 32 := by
  rcases Nat.lt_or_ge i 32 with hl | hl
  · exact hl
  · rw [b_big hl] at h
    exact Bool.noConfusion h
theorem ch_Mu_0 {A : Nat → Nat → Bool} {w h : Nat} {m : Nat → Int32} (hm : ∀ t, t < 16 → m t = (1 : Int32) <<< (nI t &&& 31)) : ch_Mu A w h m := by
  constructor
  · intro t ht
    rw [hm t ht, ce_1sh (by omega) (by omega), decide_eq_true rfl]
  · intro t x ht hx
    have hx32 := ch_lt32 hx
    rw [hm t ht, ce_1sh (by omega) hx32, decide_eq_true_eq] at hx
    exact Or.inl hx
theorem ch_Mu_s {A : Nat → Nat → Bool} {w h : Nat} {m : Nat → Int32} {t u : Nat} (hw : w ≤ 8) (I : ch_Mu A w h m) (ht : t < 16) (hu : u < 16) (hab : cd_ab A w h u t = true) : ch_Mu A w h (upd m t (m t ||| m u)) := by
  constructor
  · intro s hs
    by_cases e : s = t
    · rw [e, pk_us, b_or, I.1 t ht]
      try rfl
    · rw [pk_un e]
      exact I.1 s hs
  · intro s x hs hx
    by_cases e : s = t
    · rw [e] at hx ⊢
      rw [pk_us, b_or, Bool.or_eq_true] at hx
      rcases hx with hx | hx
      · exact I.2 t x ht hx
      · have hut : cd_rr A w h u t = true := cd_rr_iff.mpr ⟨(cd_ab_th hab).1, (cd_ab_th hab).2, cd_R_1 hab⟩
        rcases I.2 u x hu hx with z | z
        · rw [z]
          exact Or.inr hut
        · exact Or.inr ((cd_rr_Cl A hw).2.1 x u t z hut)
    · rw [pk_un e] at hx
      exact I.2 s x hs hx
/-- one pass over the pairs, from m0: done up to (t, u), the rows are m, b says whether something was new -/
def ch_Pa (A : Nat → Nat → Bool) (w h : Nat) (m0 : Nat → Int32) (t u : Nat) (m : Nat → Int32) (b : Bool) : Prop :=
  ch_Mu A w h m ∧
  (b = false → m = m0 ∧ ∀ t' u', t' < 16 → u' < 16 → (t' < t ∨ (t' = t ∧ u' < u)) → cd_ab A w h u' t' = true → m u' &&& (m t' ^^^ (-1)) = 0) ∧
  (b = true → ce_mu m < ce_mu m0)
theorem ch_Pa_0 {A : Nat → Nat → Bool} {w h : Nat} {m : Nat → Int32} (I : ch_Mu A w h m) : ch_Pa A w h m 0 0 m false :=
  ⟨I, fun _ => ⟨rfl, fun t' u' _ _ hd => by omega⟩, fun z => Bool.noConfusion z⟩
theorem ch_Pa_n {A : Nat → Nat → Bool} {w h t u : Nat} {m0 m : Nat → Int32} {b : Bool} (I : ch_Pa A w h m0 t u m b) (hn : cd_ab A w h u t = true → m u &&& (m t ^^^ (-1)) = 0) : ch_Pa A w h m0 t (u + 1) m b := by
  refine ⟨I.1, fun hb => ⟨(I.2.1 hb).1, fun t' u' h1 h2 hd hab => ?_⟩, I.2.2⟩
  by_cases e : t' = t ∧ u' = u
  · rw [e.1, e.2] at hab ⊢
    exact hn hab
  · exact (I.2.1 hb).2 t' u' h1 h2 (by omega) hab
theorem ch_Pa_y {A : Nat → Nat → Bool} {w h t u : Nat} {m0 m : Nat → Int32} {b : Bool} (hw : w ≤ 8) (I : ch_Pa A w h m0 t u m b) (ht : t < 16) (hu : u < 16) (hab : cd_ab A w h u t = true) (hne : ¬ m u &&& (m t ^^^ (-1)) = 0) : ch_Pa A w h m0 t (u + 1) (upd m t (m t ||| m u)) true := by
  refine ⟨ch_Mu_s hw I.1 ht hu hab, fun z => Bool.noConfusion z, fun _ => ?_⟩
  have h1 := ce_mu_lt m ht hne
  cases hb : b with
  | false =>
    rw [(I.2.1 hb).1] at h1 ⊢
    exact h1
  | true =>
    have h2 := I.2.2 hb
    omega
theorem ch_Pa_r {A : Nat → Nat → Bool} {w h t : Nat} {m0 m : Nat → Int32} {b : Bool} (I : ch_Pa A w h m0 t 16 m b) : ch_Pa A w h m0 (t + 1) 0 m b :=
  ⟨I.1, fun hb => ⟨(I.2.1 hb).1, fun t' u' h1 h2 hd hab => (I.2.1 hb).2 t' u' h1 h2 (by omega) hab⟩, I.2.2⟩
/-- the reference's `must` at its end: bit x of row t just if x is at or above t -/
def ch_Mf (r : Nat → Nat → Bool) (m : Nat → Int32) : Prop := ∀ t x, r t t = true → bt (m t) x = r x t
theorem ch_Pa_e {A : Nat → Nat → Bool} {w h : Nat} {m0 m : Nat → Int32} (hw : w ≤ 8) (hh : h ≤ 8) (I : ch_Pa A w h m0 16 0 m false) : ch_Mf (cd_rr A w h) m := by
  intro t x ht
  rw [cd_rr_th] at ht
  refine ce_up (M := fun t x => bt (m t) x) hw hh I.1.1 ?_ ?_ ht x
  · intro t x ht htt hx
    rcases I.1.2 t x ht hx with z | z
    · rw [z, cd_rr_th]
      exact htt
    · exact z
  · intro t u x ht hu hab hx
    have h0 := (I.2.1 rfl).2 t u ht hu (Or.inl ht) hab
    exact ce_sub0.mp h0 x (ch_lt32 hx) hx
theorem ch_cov {A : Nat → Nat → Bool} {w h u t : Nat} (hw : w ≤ 8) (hu : cd_th w h u = true) (ht : cd_th w h t = true) : cd_ab A w h u t = if (u < 8 ↔ t < 8) then false else cf_sh A u (if t < 8 then t else t - 8) := by
  have q2 := cd_th_iff.mp ht
  rcases cd_th_iff.mp hu with q | ⟨q, q'⟩
  · rw [cf_abw hw q]
    by_cases h8 : t < 8
    · rw [if_pos ⟨fun _ => h8, fun _ => by omega⟩, decide_eq_false (by omega), Bool.false_and]
    · rw [if_neg (fun z => h8 (z.mp (by omega))), decide_eq_true (by omega), decide_eq_true (by omega), if_neg h8]
      try rfl
  · rw [cf_abf hw q q']
    by_cases h8 : t < 8
    · rw [if_neg (fun z => absurd (z.mpr h8) (by omega)), decide_eq_true (by omega), if_pos h8]
      try rfl
    · rw [if_pos ⟨fun z => absurd z (by omega), fun z => absurd z h8⟩, decide_eq_false (by omega), Bool.false_and]
/-! the knot of t, gathered from above -/
def ch_Sp (r : Nat → Nat → Bool) (t j : Nat) (s : Int32) (l : Nat) : Prop :=
  (∀ i, i < 32 → bt s i = (decide (j ≤ i) && (decide (i < 16) && cd_eq r t i))) ∧
  ((l = 16 ∧ ∀ u, j ≤ u → u < 16 → cd_eq r t u = false) ∨ (j ≤ l ∧ l < 16 ∧ cd_eq r t l = true ∧ ∀ u, j ≤ u → u < l → cd_eq r t u = false))
theorem ch_Sp_0 (r : Nat → Nat → Bool) (t : Nat) : ch_Sp r t 16 0 16 := by
  refine ⟨fun i _ => ?_, Or.inl ⟨rfl, fun u _ _ => by omega⟩⟩
  rw [b_0]
  by_cases e : 16 ≤ i
  · rw [decide_eq_false (by omega : ¬ i < 16), Bool.false_and, Bool.and_false]
  · rw [decide_eq_false e, Bool.false_and]
theorem ch_Sp_y {r : Nat → Nat → Bool} {t j l : Nat} {s : Int32} (I : ch_Sp r t (j + 1) s l) (hj : j < 16) (h : cd_eq r t j = true) : ch_Sp r t j (s ||| ((1 : Int32) <<< (nI j &&& 31))) j := by
  refine ⟨fun i hi => ?_, Or.inr ⟨Nat.le_refl j, hj, h, fun u _ _ => by omega⟩⟩
  rw [ce_or1 _ (by omega) hi, I.1 i hi]
  by_cases e : i = j
  · rw [e, h, decide_eq_true rfl, decide_eq_true (Nat.le_refl j), decide_eq_true hj, Bool.or_true]
    try rfl
  · rw [decide_eq_false e, Bool.or_false]
    congr 1
    apply Bool.eq_iff_iff.mpr
    rw [decide_eq_true_eq, decide_eq_true_eq]
    omega
theorem ch_Sp_n {r : Nat → Nat → Bool} {t j l : Nat} {s : Int32} (I : ch_Sp r t (j + 1) s l) (h : cd_eq r t j = false) : ch_Sp r t j s l := by
  refine ⟨fun i hi => ?_, ?_⟩
  · rw [I.1 i hi]
    by_cases e : i = j
    · rw [e, h, Bool.and_false, Bool.and_false, Bool.and_false]
    · congr 1
      apply Bool.eq_iff_iff.mpr
      rw [decide_eq_true_eq, decide_eq_true_eq]
      omega
  · rcases I.2 with ⟨h1, h2⟩ | ⟨h1, h2, h3, h4⟩
    · refine Or.inl ⟨h1, fun u hu hu' => ?_⟩
      by_cases e : u = j
      · rw [e]
        exact h
      · exact h2 u (by omega) hu'
    · refine Or.inr ⟨by omega, h2, h3, fun u hu hu' => ?_⟩
      by_cases e : u = j
      · rw [e]
        exact h
      · exact h4 u (by omega) hu'
theorem ch_eq_sym (r : Nat → Nat → Bool) (a b : Nat) : cd_eq r a b = cd_eq r b a := Bool.and_comm _ _
theorem ch_Sp_l {r : Nat → Nat → Bool} {t l : Nat} {s : Int32} (I : ch_Sp r t 0 s l) (ht : t < 16) : l = t ↔ cd_fst r t = true := by
  rw [cd_fst_iff]
  rcases I.2 with ⟨h1, h2⟩ | ⟨h1, h2, h3, h4⟩
  · constructor
    · intro e
      omega
    · rintro ⟨e, _⟩
      have := h2 t (by omega) ht
      exact (cd_tf this (cd_eq_iff.mpr ⟨e, e⟩)).elim
  · constructor
    · intro e
      rw [e] at h3 h4
      exact ⟨(cd_eq_iff.mp h3).1, fun u hu => by rw [ch_eq_sym]; exact h4 u (by omega) hu⟩
    · rintro ⟨e1, e2⟩
      rcases Nat.lt_trichotomy l t with hl | hl | hl
      · have := e2 l hl
        rw [ch_eq_sym] at this
        exact (cd_tf this h3).elim
      · exact hl
      · exact (cd_tf (h4 t (by omega) hl) (cd_eq_iff.mpr ⟨e1, e1⟩)).elim
theorem ch_Sp_b {r : Nat → Nat → Bool} (hr : ∀ i, r i i = true → i < 16) (C : cd_Cl r) {t l : Nat} {s : Int32} (I : ch_Sp r t 0 s l) : ∀ i, i < 32 → bt s i = cd_eq r t i := by
  intro i hi
  rw [I.1 i hi, decide_eq_true (Nat.zero_le i), Bool.true_and]
  by_cases e : i < 16
  · rw [decide_eq_true e, Bool.true_and]
  · rw [decide_eq_false e, Bool.false_and]
    exact (cd_nt (fun z => e (hr i (C.1 t i (cd_eq_iff.mp z).1).2))).symm
/-- parts and needs for the firsts below t -/
def ch_Pn (r : Nat → Nat → Bool) (m : Nat → Int32) (t : Nat) (pa ne : Nat → Int32) : Prop :=
  ∀ s, s < t → cd_fst r s = true → (∀ i, i < 32 → bt (pa (cd_cn (cd_fst r) s)) i = cd_eq r s i) ∧ ne (cd_cn (cd_fst r) s) = m s
theorem ch_Pn_y {r : Nat → Nat → Bool} {m pa ne : Nat → Int32} {t : Nat} {x : Int32} (I : ch_Pn r m t pa ne) (ht : cd_fst r t = true) (hx : ∀ i, i < 32 → bt x i = cd_eq r t i) : ch_Pn r m (t + 1) (upd pa (cd_cn (cd_fst r) t) x) (upd ne (cd_cn (cd_fst r) t) (m t)) := by
  intro s hs hf
  by_cases e : s = t
  · rw [e, pk_us, pk_us]
    exact ⟨hx, rfl⟩
  · have hlt := cd_cn_lt (p := cd_fst r) (s := s) (t := t) (by omega) hf
    rw [pk_un (by omega), pk_un (by omega)]
    exact I s (by omega) hf
theorem ch_Pn_n {r : Nat → Nat → Bool} {m pa ne : Nat → Int32} {t : Nat} (I : ch_Pn r m t pa ne) (ht : cd_fst r t = false) : ch_Pn r m (t + 1) pa ne := by
  intro s hs hf
  by_cases e : s = t
  · rw [e] at hf
    exact (cd_tf ht hf).elim
  · exact I s (by omega) hf
/-! asks -/
theorem ch_ask {r : Nat → Nat → Bool} {m pa ne : Nat → Int32} (C : cd_Cl r) (hr : ∀ i, r i i = true → i < 16) (M : ch_Mf r m) (I : ch_Pn r m 16 pa ne) {k j : Nat} (hk : k < cd_cn (cd_fst r) 16) (hj : j < cd_cn (cd_fst r) 16) (hne : j ≠ k) : pa j &&& ne k = 0 ↔ cd_L r j k = false := by
  obtain ⟨k1, k2, k3⟩ := cd_fs_k hk
  obtain ⟨j1, j2, j3⟩ := cd_fs_k hj
  have ek := (I _ k1 k2).2
  have ej := (I _ j1 j2).1
  rw [k3] at ek
  rw [j3] at ej
  rw [ce_and0, ek]
  have hbit : ∀ i, i < 32 → ((bt (pa j) i && bt (m (cd_fs r k)) i) = true ↔ cd_eq r (cd_fs r j) i = true ∧ r i (cd_fs r k) = true) := by
    intro i hi
    rw [Bool.and_eq_true, ej i hi, M _ i (cd_fst_iff.mp k2).1]
  constructor
  · intro h
    refine cd_nt (fun z => ?_)
    have hjj := (cd_fst_iff.mp j2).1
    exact cd_tf (h (cd_fs r j) (by omega)) ((hbit _ (by omega)).mpr ⟨cd_eq_iff.mpr ⟨hjj, hjj⟩, (cd_L_iff.mp z).2⟩)
  · intro h i hi
    refine cd_nt (fun z => ?_)
    obtain ⟨z1, z2⟩ := (hbit i hi).mp z
    exact cd_tf h (cd_L_iff.mpr ⟨hne, C.2.1 _ _ _ (cd_eq_iff.mp z1).1 z2⟩)
/-- rows of asks below k, and row k up to j -/
def ch_As (L : Nat → Nat → Bool) (n k j : Nat) (a : Nat → Int32) : Prop :=
  (∀ k', k' < k → ∀ i, i < 32 → bt (a k') i = (decide (i < n) && L i k')) ∧ (∀ i, i < 32 → bt (a k) i = (decide (i < j) && L i k))
theorem ch_As_0 {L : Nat → Nat → Bool} {n k : Nat} {a : Nat → Int32} (h : ∀ k', k' < k → ∀ i, i < 32 → bt (a k') i = (decide (i < n) && L i k')) : ch_As L n k 0 (upd a k 0) := by
  refine ⟨fun k' hk' i hi => ?_, fun i _ => ?_⟩
  · rw [pk_un (by omega)]
    exact h k' hk' i hi
  · rw [pk_us, b_0, decide_eq_false (Nat.not_lt_zero i), Bool.false_and]
theorem ch_As_y {L : Nat → Nat → Bool} {n k j : Nat} {a : Nat → Int32} (I : ch_As L n k j a) (hj : j < 32) (h : L j k = true) : ch_As L n k (j + 1) (upd a k (a k ||| ((1 : Int32) <<< (nI j &&& 31)))) := by
  refine ⟨fun k' hk' i hi => ?_, fun i hi => ?_⟩
  · rw [pk_un (by omega)]
    exact I.1 k' hk' i hi
  · rw [pk_us, ce_or1 _ hj hi, I.2 i hi]
    by_cases e : i = j
    · rw [e, h]
      simp
    · rw [decide_eq_false e, Bool.or_false]
      congr 1
      apply Bool.eq_iff_iff.mpr
      rw [decide_eq_true_eq, decide_eq_true_eq]
      omega
theorem ch_As_n {L : Nat → Nat → Bool} {n k j : Nat} {a : Nat → Int32} (I : ch_As L n k j a) (h : L j k = false) : ch_As L n k (j + 1) a := by
  refine ⟨I.1, fun i hi => ?_⟩
  rw [I.2 i hi]
  by_cases e : i = j
  · rw [e, h, Bool.and_false, Bool.and_false]
  · congr 1
    apply Bool.eq_iff_iff.mpr
    rw [decide_eq_true_eq, decide_eq_true_eq]
    omega
theorem ch_As_e {L : Nat → Nat → Bool} {n k : Nat} {a : Nat → Int32} (I : ch_As L n k n a) : ∀ k', k' < k + 1 → ∀ i, i < 32 → bt (a k') i = (decide (i < n) && L i k') := by
  intro k' hk'
  by_cases e : k' = k
  · rw [e]
    exact I.2
  · exact I.1 k' (by omega)
theorem ch_ok {L : Nat → Nat → Bool} {n k S : Nat} {a : Nat → Int32} (hn : n ≤ 16) (I : ∀ k', k' < n → ∀ i, i < 32 → bt (a k') i = (decide (i < n) && L i k')) (hk : k < n) : a k &&& (nI S ^^^ (-1)) = 0 ↔ cd_ok L n S k = true := by
  rw [ce_sub0, cd_ok_iff]
  constructor
  · intro h m hm hl
    have := h m (by omega) (by rw [I k hk m (by omega), decide_eq_true hm, hl]; try rfl)
    rw [ce_nI S (by omega)] at this
    exact this
  · intro h i hi hb
    rw [I k hk i hi, Bool.and_eq_true, decide_eq_true_eq] at hb
    rw [ce_nI S hi]
    exact h i hb.1 hb.2
/-! ways -/
def ch_Wk (L : Nat → Nat → Bool) (n S k : Nat) (a : Nat → Int32) : Prop := ∀ T, T < 2 ^ n → a T = nI (cd_W L n S T + cd_sm (cd_ad L n S T) k)
theorem ch_Wk_0 {L : Nat → Nat → Bool} {n : Nat} {a : Nat → Int32} (h0 : a 0 = 1) (h : ∀ T, 0 < T → T < 2 ^ n → a T = 0) : ch_Wk L n 0 0 a := by
  intro T hT
  rw [cd_W_0]
  by_cases e : T = 0
  · rw [e, h0]
    exact ce_n01.2.1.symm
  · rw [h T (by omega) hT, decide_eq_false e]
    exact ce_n01.2.2.1.symm
theorem ch_Wk_e {L : Nat → Nat → Bool} {n S : Nat} {a : Nat → Int32} (I : ch_Wk L n S n a) : ch_Wk L n (S + 1) 0 a := by
  intro T hT
  rw [I T hT, cd_W_s]
  try rfl
theorem ch_ad_S (L : Nat → Nat → Bool) (n S k : Nat) : cd_ad L n S S k = 0 := by
  unfold cd_ad
  cases hb : S.testBit k with
  | true => rw [Bool.not_true, Bool.false_and, Bool.and_false]; try rfl
  | false =>
    have : ¬ S = S ||| 2 ^ k := fun e => by
      rw [e, Nat.testBit_or, Nat.testBit_two_pow_self, Bool.or_true] at hb
      exact Bool.noConfusion hb
    rw [decide_eq_false this, Bool.false_and]
    try rfl
theorem ch_Wk_S {L : Nat → Nat → Bool} {n S k : Nat} {a : Nat → Int32} (O : cd_Ord n L) (I : ch_Wk L n S k a) (hS : S < 2 ^ n) : a S = nI (cd_val L n S) := by
  rw [I S hS, cd_sm_0 (fun i _ => ch_ad_S L n S i), cd_W_T O hS (Nat.le_refl S), Nat.add_zero]
theorem ch_Wk_n {L : Nat → Nat → Bool} {n S k : Nat} {a : Nat → Int32} (I : ch_Wk L n S k a) (h : (!S.testBit k && cd_ok L n S k) = false) : ch_Wk L n S (k + 1) a := by
  intro T hT
  rw [I T hT, cd_sm_s]
  have : cd_ad L n S T k = 0 := by
    unfold cd_ad
    rw [h, Bool.and_false]
    try rfl
  rw [this]
  try rfl
theorem ch_Wk_y {L : Nat → Nat → Bool} {n S k : Nat} {a : Nat → Int32} (O : cd_Ord n L) (I : ch_Wk L n S k a) (hS : S < 2 ^ n) (hk : k < n) (h : (!S.testBit k && cd_ok L n S k) = true) : ch_Wk L n S (k + 1) (upd a (S ||| 2 ^ k) (a (S ||| 2 ^ k) + a S)) := by
  intro T hT
  rw [cd_sm_s]
  have had : cd_ad L n S T k = cond (decide (T = S ||| 2 ^ k)) (cd_val L n S) 0 := by
    unfold cd_ad
    rw [h, Bool.and_true]
  by_cases e : T = S ||| 2 ^ k
  · rw [had, decide_eq_true e, ← e, pk_us, I T hT, ch_Wk_S O I hS, nI_add, Nat.add_assoc]
    try rfl
  · rw [had, decide_eq_false e, pk_un e, I T hT]
    try rfl
theorem ch_Wk_z {L : Nat → Nat → Bool} {n S : Nat} {a : Nat → Int32} (I : ch_Wk L n S 0 a) (h : cd_val L n S = 0) : ch_Wk L n (S + 1) 0 a := by
  intro T hT
  rw [I T hT, ← cd_W_s]
  have : cd_sm (cd_ad L n S T) n = 0 := by
    apply cd_sm_0
    intro k _
    unfold cd_ad
    rw [h]
    cases (decide (T = S ||| 2 ^ k) && (!S.testBit k && cd_ok L n S k)) <;> rfl
  rw [this]
  try rfl
theorem ch_or_lt {n S k : Nat} (hS : S < 2 ^ n) (hk : k < n) : S ||| 2 ^ k < 2 ^ n := Nat.or_lt_two_pow hS (Nat.pow_lt_pow_right (by decide) hk)
end
section
/-! what the two states share: the sizes, the threading, the treadling, the ties -/
def ci_Ok (w h : Nat) (sf tl ti : Nat → Int32) : Prop :=
  (1 ≤ w ∧ w ≤ 8 ∧ 1 ≤ h ∧ h ≤ 8) ∧ (∀ c, c < 8 → ∃ s, s < 4 ∧ sf c = nI s) ∧ (∀ r, r < 8 → ∃ s, s < 4 ∧ tl r = nI s) ∧ (∀ t, t < 4 → ∃ s, s < 16 ∧ ti t = nI s)
def ci_A (sf tl ti : Nat → Int32) (c r : Nat) : Bool := bt (ti (tl r).toNatClampNeg) (sf c).toNatClampNeg
def ci_r (x : Int32) (n : Nat) : Prop := ∃ j, j < n ∧ x = nI j
def ci_t (w h : Nat) (x : Int32) : Prop := ∃ t, cd_th w h t = true ∧ x = nI t
theorem ci_r_lo {x : Int32} {n : Nat} (hn : n < 2 ^ 31) (h : x < 0) : ¬ ci_r x n := by
  rintro ⟨j, hj, rfl⟩
  exact nI_pos (by omega) h
theorem ci_r_hi {x : Int32} {n : Nat} (hn : n < 2 ^ 31) (h : nI n ≤ x) : ¬ ci_r x n := by
  rintro ⟨j, hj, rfl⟩
  exact nI_ge hj hn h
theorem ci_r_in {x : Int32} {n : Nat} (hn : n < 2 ^ 31) (h0 : ¬ x < 0) (h : ¬ nI n ≤ x) : ci_r x n := by
  rcases pk_ix x hn with z | z | z
  · exact absurd z h0
  · exact absurd z h
  · exact z
theorem ci_n8 : nI 8 = 8 ∧ nI 4 = 4 ∧ nI 16 = 16 ∧ nI 1 = 1 := by decide +kernel
/-! an array that is written from its first cell on -/
def ci_fill (a g : Nat → Int32) (j : Nat) : Nat → Int32 := fun s => if s < j then g s else a s
theorem ci_fill_0 (a g : Nat → Int32) : ci_fill a g 0 = a := by
  funext s
  exact if_neg (Nat.not_lt_zero s)
theorem ci_fill_j (a g : Nat → Int32) (j : Nat) : ci_fill a g j j = a j := if_neg (Nat.lt_irrefl j)
theorem ci_fill_lt (a g : Nat → Int32) {j s : Nat} (h : s < j) : ci_fill a g j s = g s := if_pos h
theorem ci_fill_s (a g : Nat → Int32) (j : Nat) {x : Int32} (hx : x = g j) : upd (ci_fill a g j) j x = ci_fill a g (j + 1) := by
  funext s
  unfold ci_fill upd
  by_cases e : s = j
  · rw [if_pos e, if_pos (by omega), hx, e]
  · rw [if_neg e]
    show (if s < j then g s else a s) = _
    by_cases hl : s < j
    · rw [if_pos hl, if_pos (by omega)]
    · rw [if_neg hl, if_neg (by omega)]
theorem ci_cl {x : Int32} {n : Nat} (h : x = nI n) (hn : n < 2 ^ 31) : x.toNatClampNeg = n := by rw [h]; exact nI_clamp hn
theorem ci_Ok_sf {w h : Nat} {sf tl ti : Nat → Int32} (O : ci_Ok w h sf tl ti) {sf' : Nat → Int32} (h' : ∀ c, c < 8 → ∃ s, s < 4 ∧ sf' c = nI s) : ci_Ok w h sf' tl ti := ⟨O.1, h', O.2.2⟩
theorem ci_Ok_tl {w h : Nat} {sf tl ti : Nat → Int32} (O : ci_Ok w h sf tl ti) {tl' : Nat → Int32} (h' : ∀ c, c < 8 → ∃ s, s < 4 ∧ tl' c = nI s) : ci_Ok w h sf tl' ti := ⟨O.1, O.2.1, h', O.2.2.2⟩
theorem ci_Ok_ti {w h : Nat} {sf tl ti : Nat → Int32} (O : ci_Ok w h sf tl ti) {ti' : Nat → Int32} (h' : ∀ c, c < 4 → ∃ s, s < 16 ∧ ti' c = nI s) : ci_Ok w h sf tl ti' := ⟨O.1, O.2.1, O.2.2.1, h'⟩
theorem ci_upd {a : Nat → Int32} {N M c s : Nat} (h : ∀ c, c < N → ∃ s, s < M ∧ a c = nI s) (hs : s < M) : ∀ c', c' < N → ∃ s', s' < M ∧ upd a c (nI s) c' = nI s' := by
  intro c' hc'
  by_cases e : c' = c
  · exact ⟨s, hs, by rw [e, pk_us]⟩
  · rw [pk_un e]
    exact h c' hc'
theorem ci_fillOk {a g : Nat → Int32} {N M j : Nat} (h : ∀ c, c < N → ∃ s, s < M ∧ a c = nI s) (hg : ∀ c, c < N → ∃ s, s < M ∧ g c = nI s) : ∀ c', c' < N → ∃ s', s' < M ∧ ci_fill a g j c' = nI s' := by
  intro c' hc'
  unfold ci_fill
  by_cases e : c' < j
  · rw [if_pos e]
    exact hg c' hc'
  · rw [if_neg e]
    exact h c' hc'
/-! the ties turned round -/
theorem ci_15 : ∀ s, s < 16 → (15 : Int32) - nI s = nI (15 - s) := by decide +kernel
theorem ci_b4 : ∀ s, s < 16 → cd_cn (bt (nI s)) 16 = cd_cn (bt (nI s)) 4 := by decide +kernel
/-! the threads -/
theorem ci_t_16 {w h : Nat} {x : Int32} (hw : w ≤ 8) (hh : h ≤ 8) (e : ci_t w h x) : ∃ t, t < 16 ∧ cd_th w h t = true ∧ x = nI t := by
  obtain ⟨t, h1, h2⟩ := e
  exact ⟨t, ce_th16 hw hh h1, h1, h2⟩
theorem ci_t_nI {w h t : Nat} (hw : w ≤ 8) (hh : h ≤ 8) (ht : t < 2 ^ 31) : ci_t w h (nI t) ↔ cd_th w h t = true := by
  constructor
  · rintro ⟨s, h1, h2⟩
    have hs := ce_th16 hw hh h1
    rw [nI_eq ht (by omega)] at h2
    rw [h2]
    exact h1
  · exact fun z => ⟨t, z, rfl⟩
theorem ci_run {p q : Nat → Bool} {n : Nat} (h : ∀ i, i < n → p i = q i) : nI (cf_rb p n).2 = nI (cf_rb q n).2 := by rw [cf_rb_c h]
end
section
/-! what X reads off `under` -/
theorem cj_lw {A : Nat → Nat → Bool} {w h : Nat} {un : Nat → Int32} (hw : w ≤ 8) (hh : h ≤ 8) (U : cg_Un A w h un) {t i : Nat} (ht : t < w) (hi : i < h) : bt (un t >>> ((8 : Int32) &&& 31)) i = cf_sh A t i := by
  have e : bt (un t >>> (nI 8 &&& 31)) i = cf_sh A t i := by
    rw [b_sshr 8 (by omega) _ (by omega), if_pos (by omega), U t (8 + i) (by omega) (by omega), cf_abw hw ht, decide_eq_true (by omega), decide_eq_true (by omega), Nat.add_sub_cancel_left]
    try rfl
  exact e
theorem cj_lf {A : Nat → Nat → Bool} {w h : Nat} {un : Nat → Int32} (hw : w ≤ 8) (hh : h ≤ 8) (U : cg_Un A w h un) {t i : Nat} (ht : 8 ≤ t) (ht' : t < 8 + h) (hi : i < w) : bt (un t) i = cf_sh A t i := by
  rw [U t i (by omega) (by omega), cf_abf hw ht ht', decide_eq_true hi]
  try rfl
theorem cj_eq {A : Nat → Nat → Bool} {w h : Nat} {un : Nat → Int32} (hw : w ≤ 8) (hh : h ≤ 8) (U : cg_Un A w h un) {s t : Nat} (hs : cd_th w h s = true) (ht : cd_th w h t = true) (hst : s < 8 ↔ t < 8) : decide (un s = un t) = cf_al A w h t s := by
  have h1 := ce_th16 hw hh hs
  have h2 := ce_th16 hw hh ht
  apply Bool.eq_iff_iff.mpr
  rw [decide_eq_true_eq, ← cf_alike hw hh hs ht hst, ce_eq]
  constructor
  · intro z i hi
    rw [← U s i h1 hi, ← U t i h2 hi]
    exact z i hi
  · intro z i hi
    rw [U s i h1 hi, U t i h2 hi]
    exact z i hi
theorem cj_over {A : Nat → Nat → Bool} {w h : Nat} {un : Nat → Int32} (hw : w ≤ 8) (hh : h ≤ 8) (U : cg_Un A w h un) {t : Nat} (ht : cd_th w h t = true) : cd_cn (bt (un t)) 16 = cd_cn (cf_sh A t) (cf_cr w h t) := by
  have h2 := ce_th16 hw hh ht
  rw [← cf_over hw hh ht]
  exact cd_cn_c (fun i hi => U t i h2 (by omega))
theorem cj_and {A : Nat → Nat → Bool} {w h : Nat} {un : Nat → Int32} (hw : w ≤ 8) (hh : h ≤ 8) (U : cg_Un A w h un) {t : Nat} (ht : t < 16) (x : Int32) : un t &&& x = 0 ↔ ∀ u, u < 16 → bt x u = true → cd_ab A w h t u = false := by
  rw [ce_and0]
  constructor
  · intro z u hu hx
    have := z u (by omega)
    rw [hx, Bool.and_true, U t u ht (by omega)] at this
    exact this
  · intro z i hi
    rw [U t i ht hi]
    refine cd_nt (fun q => ?_)
    rw [Bool.and_eq_true] at q
    exact cd_tf (z i (ce_th16 hw hh (cd_ab_th q.1).2) q.2) q.1
/-! every thread, as the reference's set -/
theorem cj_all : ∀ w, w < 9 → ∀ h, h < 9 → ∀ i, i < 32 → bt ((((1 : Int32) <<< (nI w &&& 31)) - 1) ||| ((((1 : Int32) <<< (nI h &&& 31)) - 1) <<< ((8 : Int32) &&& 31))) i = cd_th w h i := by decide +kernel
theorem cj_own {w h : Nat} (hw : w ≤ 8) (hh : h ≤ 8) (x : Int32) {i : Nat} (hi : i < 32) : bt (x &&& ((((1 : Int32) <<< (nI w &&& 31)) - 1) ||| ((((1 : Int32) <<< (nI h &&& 31)) - 1) <<< ((8 : Int32) &&& 31)))) i = (bt x i && cd_th w h i) := by
  rw [b_and, cj_all w (by omega) h (by omega) i hi]
theorem cj_m2 (n : Nat) : nI (1 + n) - 2 = nI n - 1 := by
  rw [← nI_add, ci_n8.2.2.2]
  grind
theorem cj_kb {r : Nat → Nat → Bool} {t : Nat} : cd_kb r t ≤ t := cd_cn_le _ t
theorem cj_pw {n : Nat} (h : n ≤ 16) : 2 ^ n ≤ 65536 := Nat.pow_le_pow_right (n := 2) (by decide) h
end
section
/-! X: its small methods, and `under` -/
section
variable {w h : Nat} {sf tl ti un be : Nat → Int32}
theorem cx_isWithin {post : Int32 → Prop} {x : Int32} {n : Nat} (hn : n < 2 ^ 31) (h1 : ci_r x n → post 1) (h0 : ¬ ci_r x n → post 0) : wpX_isWithin post x (nI n) :=
  br_c (fun z => h0 (ci_r_lo hn z)) (fun z => br_c (fun q => h0 (ci_r_hi hn q)) (fun q => h1 (ci_r_in hn z q)))
theorem cx_isWarp {post : Int32 → Prop} {x : Int32} (hw : w ≤ 8) (h1 : ci_r x w → post 1) (h0 : ¬ ci_r x w → post 0) : wpX_isWarp post (nI w, nI h, sf, tl, ti, un, be) x := by
  unfold wpX_isWarp
  exact cx_isWithin (by omega) (fun z => ⟨rfl, h1 z⟩) (fun z => ⟨rfl, h0 z⟩)
theorem cx_isWeft {post : Int32 → Prop} {x : Int32} (hh : h ≤ 8) (h1 : ci_r x h → post 1) (h0 : ¬ ci_r x h → post 0) : wpX_isWeft post (nI w, nI h, sf, tl, ti, un, be) x := by
  unfold wpX_isWeft
  exact cx_isWithin (by omega) (fun z => ⟨rfl, h1 z⟩) (fun z => ⟨rfl, h0 z⟩)
theorem cx_lt8 {x : Int32} (hx : x < 0) : x < 8 := by
  rw [Int32.lt_iff_toInt_lt] at hx ⊢
  have e0 : (0 : Int32).toInt = 0 := by decide
  have e8 : (8 : Int32).toInt = 8 := by decide
  omega
theorem cx_isThread {post : Int32 → Prop} {x : Int32} (hw : w ≤ 8) (hh : h ≤ 8) (h1 : ci_t w h x → post 1) (h0 : ¬ ci_t w h x → post 0) : wpX_isThread post (nI w, nI h, sf, tl, ti, un, be) x := by
  unfold wpX_isThread
  refine cx_isWarp hw (fun z => br_f cg_10 (h1 ?_)) (fun z => br_t rfl ?_)
  · obtain ⟨j, hj, rfl⟩ := z
    exact ⟨j, cd_th_iff.mpr (Or.inl hj), rfl⟩
  · by_cases hx : x < 0
    · refine br_t (cx_lt8 hx) (h0 ?_)
      rintro ⟨t, ht, rfl⟩
      exact nI_pos (by have := ce_th16 hw hh ht; omega) hx
    · obtain ⟨t, ht, rfl⟩ := nI_of hx
      refine pk_lt t 8 (fun q => h0 ?_) (fun q => pk_le (8 + h) t (fun p => h0 ?_) (fun p => h1 ?_) (nI_add 8 h))
      · rw [ci_t_nI hw hh ht, cd_th_iff]
        rintro (a | a)
        · exact z ⟨t, a, rfl⟩
        · omega
      · rw [ci_t_nI hw hh ht, cd_th_iff]
        omega
      · rw [ci_t_nI hw hh ht, cd_th_iff]
        omega
theorem cx_holds {post : Int32 → Prop} {x : Int32} {e : Nat} (he : e < 32) (h1 : bt x e = true → post 1) (h0 : bt x e = false → post 0) : wpX_holds post x (nI e) := cg_if (ce_bit1 x he) h1 h0
theorem cx_above {post : Int32 → Prop} (O : ci_Ok w h sf tl ti) {c r : Nat} (hc : c < 8) (hr : r < 8) (h1 : ci_A sf tl ti c r = true → post 1) (h0 : ci_A sf tl ti c r = false → post 0) : wpX_isWarpAbove post (nI w, nI h, sf, tl, ti, un, be) (nI c) (nI r) := by
  obtain ⟨s, hs, es⟩ := O.2.1 c hc
  obtain ⟨q, hq, eq⟩ := O.2.2.1 r hr
  have e : ci_A sf tl ti c r = bt (ti (nI q).toNatClampNeg) s := by
    unfold ci_A
    rw [es, eq, nI_clamp (n := s) (by omega)]
  rw [e] at h1 h0
  unfold wpX_isWarpAbove
  dsimp only
  rw [nI_clamp (n := c) (by omega), nI_clamp (n := r) (by omega), es, eq]
  exact ⟨vp_in_nI (by omega) (by omega), vp_in_nI (by omega) (by omega), vp_in_nI (by omega) (by omega), cx_holds (by omega) (fun z => ⟨rfl, h1 z⟩) (fun z => ⟨rfl, h0 z⟩)⟩
theorem cx_sz {post : Int32 → Prop} {x : Int32} (K : post (nI (cd_cn (bt x) 16))) : ∀ n i, i ≤ 16 → 16 - i < n → wX_sizeOf_4 post x n (nI (cd_cn (bt x) i)) (nI i) := by
  intro n
  induction n with
  | zero => intro i _ hn; omega
  | succ n ih =>
    intro i hi hn
    refine pk_le 16 i (fun z => ?_) (fun z => ?_)
    · have e : i = 16 := by omega
      rw [e]
      exact K
    · intro y ey x2 ex2
      rw [ey, ex2, nI_1, ce_bit x (by omega), nI_add]
      exact ih (i + 1) (by omega) (by omega)
theorem cx_sizeOf {post : Int32 → Prop} {x : Int32} (K : post (nI (cd_cn (bt x) 16))) : wpX_sizeOf post x := ⟨17, cx_sz K 17 0 (by omega) (by omega)⟩
def cx_Q (h c r : Nat) : Nat → Nat → Prop := fun c' r' => (c' < c ∧ r' < h) ∨ (c' = c ∧ r' < r)
theorem cx_fu33 {post : SX → Prop} {J : Int32 → (Nat → Int32) → (Nat → Int32) → (Nat → Int32) → (Nat → Int32) → (Nat → Int32) → Prop} (O : ci_Ok w h sf tl ti) {c : Nat} (hc : c < w)
    (K : ∀ un', cg_Is un' (cg_U (ci_A sf tl ti) (cx_Q h c h)) → J (nI (c + 1)) sf tl ti un' be) :
    ∀ n r un, r ≤ h → h - r < n → cg_Is un (cg_U (ci_A sf tl ti) (cx_Q h c r)) → wX_findUnder_33 post J (nI c) (nI w) (nI h) n (nI r) sf tl ti un be := by
  have hw := O.1.2.1
  have hh := O.1.2.2.2
  intro n
  induction n with
  | zero => intro r un _ hn; omega
  | succ n ih =>
    intro r un hr hn I
    have e8 : (8 : Int32) + nI r = nI (8 + r) := nI_add 8 r
    have hQ : ∀ c' r', cx_Q h c (r + 1) c' r' ↔ cx_Q h c r c' r' ∨ (c' = c ∧ r' = r) := by
      intro c' r'
      unfold cx_Q
      omega
    refine pk_le h r (fun z => ?_) (fun z => ?_)
    · intro x ex
      have e : r = h := by omega
      rw [e] at I
      rw [ex, nI_1]
      exact K un I
    · refine cx_above O (by omega) (by omega) (fun hA => br_f cg_10 ?_) (fun hA => br_t rfl ?_)
      · refine ⟨vp_in_nI (by omega) (by omega), vp_in_nI (by omega) (by omega), fun a ea x ex => ?_⟩
        rw [ex, nI_1, ea, e8, nI_clamp (n := c) (by omega)]
        exact ih (r + 1) _ (by omega) (by omega) (cg_U_t I (by omega) (by omega) hQ hA)
      · rw [e8]
        refine ⟨vp_in_nI (by omega) (by omega), vp_in_nI (by omega) (by omega), fun a ea x ex => ?_⟩
        rw [ex, nI_1, ea, nI_clamp (n := 8 + r) (by omega)]
        exact ih (r + 1) _ (by omega) (by omega) (cg_U_f I (by omega) (by omega) hQ hA)
theorem cx_fu23 {post : SX → Prop} (O : ci_Ok w h sf tl ti) (K : ∀ un', cg_Un (ci_A sf tl ti) w h un' → post (nI w, nI h, sf, tl, ti, un', be)) :
    ∀ n c un, c ≤ w → w - c < n → cg_Is un (cg_U (ci_A sf tl ti) (cx_Q h c 0)) → wX_findUnder_23 post (nI w) (nI h) n (nI c) sf tl ti un be := by
  have hw := O.1.2.1
  have hh := O.1.2.2.2
  intro n
  induction n with
  | zero => intro c un _ hn; omega
  | succ n ih =>
    intro c un hc hn I
    refine pk_le w c (fun z => ?_) (fun z => ?_)
    · have e : c = w := by omega
      rw [e] at I
      refine K un (cg_U_e hw hh (fun t i ht hi => (I t i ht hi).trans (cg_U_c (fun c r => ?_) t i)))
      unfold cx_Q
      omega
    · refine ⟨h + 1, cx_fu33 O z (fun un' I' => ?_) (h + 1) 0 un (by omega) (by omega) I⟩
      refine ih (c + 1) un' (by omega) (by omega) (fun t i ht hi => (I' t i ht hi).trans (cg_U_c (fun c' r' => ?_) t i))
      unfold cx_Q
      omega
theorem cx_fu2 {post : SX → Prop} (O : ci_Ok w h sf tl ti) (K : ∀ un', cg_Un (ci_A sf tl ti) w h un' → post (nI w, nI h, sf, tl, ti, un', be)) :
    ∀ n t un, t ≤ 16 → 16 - t < n → (∀ s, s < t → un s = 0) → wX_findUnder_2 post (nI w) (nI h) n (nI t) sf tl ti un be := by
  intro n
  induction n with
  | zero => intro t un _ hn; omega
  | succ n ih =>
    intro t un ht hn I
    refine pk_le 16 t (fun z => ?_) (fun z => ?_)
    · have e : t = 16 := by omega
      rw [e] at I
      refine ⟨w + 1, cx_fu23 O K (w + 1) 0 un (by omega) (by omega) (fun t i ht hi => (cg_U_0 I t i ht hi).trans (cg_U_c (fun c' r' => ?_) t i))⟩
      exact ⟨fun q => q.elim, fun q => by unfold cx_Q at q; omega⟩
    · refine ⟨vp_in_nI (by omega) (by omega), fun a ea x ex => ?_⟩
      rw [ex, nI_1, ea, nI_clamp (n := t) (by omega)]
      refine ih (t + 1) _ (by omega) (by omega) (fun s hs => ?_)
      by_cases e : s = t
      · rw [e, pk_us]
      · rw [pk_un e]
        exact I s (by omega)
theorem cx_findUnder {post : SX → Prop} (O : ci_Ok w h sf tl ti) (K : ∀ un', cg_Un (ci_A sf tl ti) w h un' → post (nI w, nI h, sf, tl, ti, un', be)) : wpX_findUnder post (nI w, nI h, sf, tl, ti, un, be) :=
  ⟨17, cx_fu2 O K 17 0 un (by omega) (by omega) (fun s hs => absurd hs (Nat.not_lt_zero s))⟩
end
end
section
/-! X: what it reads off `under` -/
section
variable {w h : Nat} {sf tl ti un be : Nat → Int32}
theorem cx_lr {post : Int32 → Prop} {x : Int32} {len : Nat} (hl : len ≤ 8) (K : post (nI (cf_rb (bt x) len).2)) : ∀ n i, i ≤ len → len - i < n → wX_longestRun_7 post x (nI len) n (nI (cf_rb (bt x) i).1) (nI (cf_rb (bt x) i).2) (nI i) := by
  intro n
  induction n with
  | zero => intro i _ hn; omega
  | succ n ih =>
    intro i hi hn
    have hb := cf_rb_le (bt x) i
    have go : ∀ run, run ≤ i + 1 → cond (decide (0 < i) && (bt x i == bt x (i - 1))) ((cf_rb (bt x) i).1 + 1) 1 = run → i < len → wX_longestRun_54 post (wX_longestRun_7 post x (nI len) n) x (nI len) (nI (cf_rb (bt x) i).2) (nI i) (nI run) := by
      intro run hr e hil
      have e2 : cf_rb (bt x) (i + 1) = (run, if (cf_rb (bt x) i).2 < run then run else (cf_rb (bt x) i).2) := by
        rw [cf_rb_s]
        unfold cf_st
        rw [e]
      have I := ih (i + 1) (by omega) (by omega)
      rw [e2] at I
      dsimp only at I
      refine pk_le run (cf_rb (bt x) i).2 (fun z y ey => ?_) (fun z y ey => ?_)
      · rw [if_neg (by omega)] at I
        rw [ey, nI_1]
        exact I
      · rw [if_pos (by omega)] at I
        rw [ey, nI_1]
        exact I
    refine pk_le len i (fun z => ?_) (fun z => pk_le i 0 (fun q => ?_) (fun q => ?_))
    · have e : i = len := by omega
      rw [e]
      exact K
    · refine br_t rfl (go 1 (by omega) ?_ z)
      rw [decide_eq_false (by omega), Bool.false_and]
      try rfl
    · have em : nI i - 1 = nI (i - 1) := pk_sub (b := 1) (by omega)
      rw [em]
      refine cx_holds (by omega) (fun b1 => ?_) (fun b1 => ?_)
      · refine cx_holds (by omega) (fun b2 => ?_) (fun b2 => ?_)
        · refine br_t rfl (br_f cg_10 ?_)
          rw [nI_1]
          refine go _ (by omega) ?_ z
          rw [b1, b2, decide_eq_true q]
          try rfl
        · refine br_f cg_10 (br_t rfl (go 1 (by omega) ?_ z))
          rw [b1, b2, decide_eq_true q]
          try rfl
      · refine cx_holds (by omega) (fun b2 => ?_) (fun b2 => ?_)
        · refine br_f cg_01 (br_t rfl (go 1 (by omega) ?_ z))
          rw [b1, b2, decide_eq_true q]
          try rfl
        · refine br_t rfl (br_f cg_10 ?_)
          rw [nI_1]
          refine go _ (by omega) ?_ z
          rw [b1, b2, decide_eq_true q]
          try rfl
theorem cx_longestRun {post : Int32 → Prop} {x : Int32} {len : Nat} (hl : len ≤ 8) (K : post (nI (cf_rb (bt x) len).2)) : wpX_longestRun post x (nI len) := ⟨len + 1, cx_lr hl K (len + 1) 0 (by omega) (by omega)⟩
theorem cx_nf {post : Int32 → Prop} {f t : Nat} (ht : t < 16) (h1 : cf_nw (fun s t => decide (un s = un t)) f t = true → post 1) (h0 : cf_nw (fun s t => decide (un s = un t)) f t = false → post 0) :
    ∀ n s, f ≤ s → s ≤ t → t - s < n → (∀ s', s' < s → f ≤ s' → ¬ un s' = un t) → wX_isNewFrom_2 post (nI t) (nI w) (nI h) sf tl ti un be n (nI s) := by
  intro n
  induction n with
  | zero => intro s _ _ hn; omega
  | succ n ih =>
    intro s hf hs hn I
    refine pk_le t s (fun z => h1 ?_) (fun z => ?_)
    · have e : s = t := by omega
      rw [e] at I
      exact cf_nw_iff.mpr (fun s' a b => decide_eq_false (I s' a b))
    · refine ⟨vp_in_nI (by omega) (by omega), vp_in_nI (by omega) (by omega), ?_⟩
      rw [nI_clamp (n := s) (by omega), nI_clamp (n := t) (by omega)]
      refine br_c (fun e => h0 (cd_nt (fun q => ?_))) (fun e y ey => ?_)
      · have := cf_nw_iff.mp q s (by omega) hf
        rw [decide_eq_false_iff_not] at this
        exact this e
      · rw [ey, nI_1]
        refine ih (s + 1) (by omega) (by omega) (by omega) (fun s' a b => ?_)
        by_cases e' : s' = s
        · rw [e']
          exact e
        · exact I s' (by omega) b
theorem cx_isNewFrom {post : Int32 → Prop} {f t : Nat} (hf : f ≤ t) (ht : t < 16) (h1 : cf_nw (fun s t => decide (un s = un t)) f t = true → post 1) (h0 : cf_nw (fun s t => decide (un s = un t)) f t = false → post 0) : wpX_isNewFrom post (nI w, nI h, sf, tl, ti, un, be) (nI f) (nI t) :=
  ⟨t - f + 1, cx_nf ht h1 h0 (t - f + 1) f (Nat.le_refl f) hf (by omega) (fun s' a b => by omega)⟩
theorem cx_cd {post : Int32 → Prop} {f m : Nat} (hm : f + m ≤ 16) (K : post (nI (cd_cn (fun j => cf_nw (fun s t => decide (un s = un t)) f (f + j)) m))) :
    ∀ n j, j ≤ m → m - j < n → wX_countDifferent_5 post (nI f) (nI m) (nI w) (nI h) sf tl ti un be n (nI (cd_cn (fun j => cf_nw (fun s t => decide (un s = un t)) f (f + j)) j)) (nI (f + j)) := by
  intro n
  induction n with
  | zero => intro j _ hn; omega
  | succ n ih =>
    intro j hj hn
    have I := ih (j + 1)
    refine pk_le (f + m) (f + j) (fun z => ?_) (fun z => ?_) (nI_add f m)
    · have e : j = m := by omega
      rw [e]
      exact K
    · rw [cd_cn_s] at I
      refine cx_isNewFrom (by omega) (by omega) (fun b => br_f cg_10 (fun x ex y ey => ?_)) (fun b => br_t rfl (fun y ey => ?_))
      · rw [b] at I
        rw [ex, ey, nI_1, nI_1]
        exact I (by omega) (by omega)
      · rw [b] at I
        rw [ey, nI_1]
        exact I (by omega) (by omega)
theorem cx_countDifferent {post : Int32 → Prop} {f m : Nat} (hm : f + m ≤ 16) (K : post (nI (cd_cn (fun j => cf_nw (fun s t => decide (un s = un t)) f (f + j)) m))) : wpX_countDifferent post (nI w, nI h, sf, tl, ti, un, be) (nI f) (nI m) :=
  ⟨m + 1, cx_cd hm K (m + 1) 0 (by omega) (by omega)⟩
theorem cx_li {post : Int32 → SX → Prop} {x : Int32} (O : ci_Ok w h sf tl ti) (U : cg_Un (ci_A sf tl ti) w h un) (h1 : cf_lift (ci_A sf tl ti) w h (bt x) = true → post 1 (nI w, nI h, sf, tl, ti, un, be)) (h0 : cf_lift (ci_A sf tl ti) w h (bt x) = false → post 0 (nI w, nI h, sf, tl, ti, un, be)) :
    ∀ n t, t ≤ 16 → 16 - t < n → (∀ s, s < t → bt x s = false → un s &&& x = 0) → wX_liftable_6 post x (nI w) (nI h) sf tl ti un be n (nI t) := by
  have hw := O.1.2.1
  have hh := O.1.2.2.2
  intro n
  induction n with
  | zero => intro t _ hn; omega
  | succ n ih =>
    intro t ht hn I
    refine pk_le 16 t (fun z => h1 ?_) (fun z => ?_)
    · have e : t = 16 := by omega
      rw [e] at I
      exact cf_lift_iff.mpr (fun s hs hx => (cj_and hw hh U hs x).mp (I s hs hx))
    · refine cx_holds (by omega) (fun b => br_f cg_10 (fun y ey => ?_)) (fun b => br_t rfl ⟨vp_in_nI (by omega) (by omega), ?_⟩)
      · rw [ey, nI_1]
        refine ih (t + 1) (by omega) (by omega) (fun s hs hx => ?_)
        by_cases e : s = t
        · rw [e] at hx
          exact (cd_tf hx b).elim
        · exact I s (by omega) hx
      · rw [nI_clamp (n := t) (by omega)]
        refine br_c (fun e y ey => ?_) (fun e => h0 (cd_nt (fun q => ?_)))
        · rw [ey, nI_1]
          refine ih (t + 1) (by omega) (by omega) (fun s hs hx => ?_)
          by_cases e' : s = t
          · rw [e']
            exact e
          · exact I s (by omega) hx
        · exact e ((cj_and hw hh U (by omega) x).mpr (cf_lift_iff.mp q t (by omega) b))
end
end
section
/-! X: `beneath`, and what it reads off it -/
section
variable {w h : Nat} {sf tl ti un be : Nat → Int32}
theorem cx_fb56 {post : SX → Prop} {J : Int32 → (Nat → Int32) → (Nat → Int32) → (Nat → Int32) → (Nat → Int32) → (Nat → Int32) → Prop} {k : Nat} (hk : k < 16) (a : Nat → Int32)
    (K : J (nI (k + 1)) sf tl ti un (cg_wt a k 16)) :
    ∀ n t, t ≤ 16 → 16 - t < n → wX_findBeneath_56 post J (nI k) (nI w) (nI h) n (nI t) sf tl ti un (cg_wt a k t) := by
  intro n
  induction n with
  | zero => intro t _ hn; omega
  | succ n ih =>
    intro t ht hn
    have I := ih (t + 1)
    refine pk_le 16 t (fun z => ?_) (fun z => ⟨vp_in_nI (by omega) (by omega), ?_⟩)
    · intro x ex
      have e : t = 16 := by omega
      rw [ex, nI_1, e]
      exact K
    · rw [nI_clamp (n := t) (by omega), nI_clamp (n := k) (by omega), cg_wt_t, cg_wt_n]
      refine cx_holds (by omega) (fun b => br_f cg_10 ⟨vp_in_nI (by omega) (by omega), vp_in_nI (by omega) (by omega), vp_in_nI (by omega) (by omega), fun a' ea y ey => ?_⟩) (fun b => br_t rfl (fun y ey => ?_))
      · rw [ea, ey, nI_1, cg_wt_1 a k t b]
        exact I (by omega) (by omega)
      · rw [ey, nI_1, cg_wt_0 a k t b]
        exact I (by omega) (by omega)
theorem cx_fb48 {post : SX → Prop} (O : ci_Ok w h sf tl ti) (K : ∀ be', cg_Be (cd_rr (ci_A sf tl ti) w h) be' → post (nI w, nI h, sf, tl, ti, un, be')) :
    ∀ n k a, k ≤ 16 → 16 - k < n → ce_In (ci_A sf tl ti) w h k (cg_B a) → wX_findBeneath_48 post (nI w) (nI h) n (nI k) sf tl ti un a := by
  have hw := O.1.2.1
  have hh := O.1.2.2.2
  intro n
  induction n with
  | zero => intro k a _ hn; omega
  | succ n ih =>
    intro k a hk hn I
    refine pk_le 16 k (fun z => ?_) (fun z => ?_)
    · have e : k = 16 := by omega
      rw [e] at I
      exact K a (cg_In_e hw hh I)
    · have q := cx_fb56 (post := post) (J := wX_findBeneath_48 post (nI w) (nI h) n) (w := w) (h := h) (sf := sf) (tl := tl) (ti := ti) (un := un) (by omega : k < 16) a (ih (k + 1) _ (by omega) (by omega) (cg_In_s hw (by omega) I)) 17 0 (by omega) (by omega)
      rw [cg_wt_z] at q
      exact ⟨17, q⟩
def cx_g (w h : Nat) (un : Nat → Int32) (t : Nat) : Int32 := cond (cd_th w h t) (((1 : Int32) <<< (nI t &&& 31)) ||| un t) 0
theorem cx_fb6 {post : SX → Prop} (O : ci_Ok w h sf tl ti) (U : cg_Un (ci_A sf tl ti) w h un) (K : ∀ be', cg_Be (cd_rr (ci_A sf tl ti) w h) be' → post (nI w, nI h, sf, tl, ti, un, be')) :
    ∀ n t, t ≤ 16 → 16 - t < n → wX_findBeneath_6 post (nI w) (nI h) n (nI t) sf tl ti un (ci_fill be (cx_g w h un) t) := by
  have hw := O.1.2.1
  have hh := O.1.2.2.2
  intro n
  induction n with
  | zero => intro t _ hn; omega
  | succ n ih =>
    intro t ht hn
    have I := ih (t + 1)
    refine pk_le 16 t (fun z => ?_) (fun z => ?_)
    · have e : t = 16 := by omega
      refine ⟨17, cx_fb48 O K 17 0 _ (by omega) (by omega) (cg_In_0 hw hh (fun s i hs hi => ?_))⟩
      rw [e, ci_fill_lt _ _ hs]
      unfold cx_g
      cases hth : cd_th w h s with
      | false => exact b_0 i
      | true =>
        show bt (((1 : Int32) <<< (nI s &&& 31)) ||| un s) i = (true && (decide (i = s) || cd_ab (ci_A sf tl ti) w h s i))
        rw [b_or, ce_1sh (by omega) hi, U s i hs hi, Bool.true_and]
    · refine cx_isThread hw hh (fun b => br_f cg_10 ⟨vp_in_nI (by omega) (by omega), vp_in_nI (by omega) (by omega), fun a' ea y ey => ?_⟩) (fun b => br_t rfl ⟨vp_in_nI (by omega) (by omega), fun a' ea y ey => ?_⟩)
      · rw [ci_t_nI hw hh (by omega)] at b
        rw [ea, ey, nI_1, nI_clamp (n := t) (by omega), ci_fill_s be (cx_g w h un) t (by unfold cx_g; rw [b]; try rfl)]
        exact I (by omega) (by omega)
      · rw [ci_t_nI hw hh (by omega)] at b
        rw [ea, ey, nI_1, nI_clamp (n := t) (by omega), ci_fill_s be (cx_g w h un) t (by unfold cx_g; rw [cd_nt b]; try rfl)]
        exact I (by omega) (by omega)
theorem cx_findBeneath {post : SX → Prop} (O : ci_Ok w h sf tl ti) (K : ∀ un' be', cg_Be (cd_rr (ci_A sf tl ti) w h) be' → post (nI w, nI h, sf, tl, ti, un', be')) : wpX_findBeneath post (nI w, nI h, sf, tl, ti, un, be) := by
  unfold wpX_findBeneath
  dsimp only
  refine cx_findUnder O (fun un' U => ?_)
  have q := cx_fb6 (be := be) O U (K un') 17 0 (by omega) (by omega)
  rw [ci_fill_0] at q
  exact ⟨17, q⟩
variable {r : Nat → Nat → Bool}
theorem cx_fk {post : Int32 → Prop} {t : Nat} (C : cd_Cl r) (B : cg_Be r be) (ht : t < 16) (hr : r t t = true) (h1 : cd_fst r t = true → post 1) (h0 : cd_fst r t = false → post 0) :
    ∀ n s, s ≤ t → t - s < n → (∀ s', s' < s → cd_eq r s' t = false) → wX_isFirstOfKnot_13 post (nI t) (nI w) (nI h) sf tl ti un be n (nI s) := by
  intro n
  induction n with
  | zero => intro s _ hn; omega
  | succ n ih =>
    intro s hs hn I
    refine pk_le t s (fun z => h1 ?_) (fun z => ?_)
    · have e : s = t := by omega
      rw [e] at I
      exact cd_fst_iff.mpr ⟨hr, I⟩
    · refine ⟨vp_in_nI (by omega) (by omega), vp_in_nI (by omega) (by omega), ?_⟩
      rw [nI_clamp (n := s) (by omega), nI_clamp (n := t) (by omega)]
      refine cg_if (cg_be_eq C B (by omega) ht hr) (fun b => h0 (cd_nt (fun q => ?_))) (fun b y ey => ?_)
      · exact cd_tf ((cd_fst_iff.mp q).2 s z) b
      · rw [ey, nI_1]
        refine ih (s + 1) (by omega) (by omega) (fun s' hs' => ?_)
        by_cases e : s' = s
        · rw [e]
          exact b
        · exact I s' (by omega)
theorem cx_first {post : Int32 → Prop} {t : Nat} (C : cd_Cl r) (B : cg_Be r be) (ht : t < 16) (h1 : cd_fst r t = true → post 1) (h0 : cd_fst r t = false → post 0) : wpX_isFirstOfKnot post (nI w, nI h, sf, tl, ti, un, be) (nI t) := by
  unfold wpX_isFirstOfKnot
  dsimp only
  refine ⟨vp_in_nI ht (by omega), ?_⟩
  rw [nI_clamp (n := t) (by omega)]
  refine cg_fi (cg_be_0 C B ht) (fun b => ?_) (fun b => h0 (cd_nt (fun q => ?_)))
  · exact ⟨t + 1, cx_fk C B ht b h1 h0 (t + 1) 0 (by omega) (by omega) (fun s' hs' => absurd hs' (Nat.not_lt_zero s'))⟩
  · exact cd_tf b (cd_fst_iff.mp q).1
theorem cx_ck {post : Int32 → Prop} (C : cd_Cl r) (B : cg_Be r be) (K : post (nI (cd_cn (cd_fst r) 16))) : ∀ n t, t ≤ 16 → 16 - t < n → wX_countKnots_4 post (nI w) (nI h) sf tl ti un be n (nI (cd_cn (cd_fst r) t)) (nI t) := by
  intro n
  induction n with
  | zero => intro t _ hn; omega
  | succ n ih =>
    intro t ht hn
    have I := ih (t + 1)
    refine pk_le 16 t (fun z => ?_) (fun z => ?_)
    · have e : t = 16 := by omega
      rw [e]
      exact K
    · rw [cd_cn_s] at I
      refine cx_first C B (by omega) (fun b => br_f cg_10 (fun x ex y ey => ?_)) (fun b => br_t rfl (fun y ey => ?_))
      · rw [b] at I
        rw [ex, ey, nI_1, nI_1]
        exact I (by omega) (by omega)
      · rw [b] at I
        rw [ey, nI_1]
        exact I (by omega) (by omega)
theorem cx_countKnots {post : Int32 → Prop} (C : cd_Cl r) (B : cg_Be r be) (K : post (nI (cd_cn (cd_fst r) 16))) : wpX_countKnots post (nI w, nI h, sf, tl, ti, un, be) := ⟨17, cx_ck C B K 17 0 (by omega) (by omega)⟩
theorem cx_kb {post : Int32 → Prop} {t : Nat} (C : cd_Cl r) (B : cg_Be r be) (ht : t < 16) (K : post (nI (cd_kb r t))) :
    ∀ n s, s ≤ t → t - s < n → wX_knotsBefore_4 post (nI t) (nI w) (nI h) sf tl ti un be n (nI (cd_cn (fun s => cd_fst r s && (!r s t && !r t s)) s)) (nI s) := by
  intro n
  induction n with
  | zero => intro s _ hn; omega
  | succ n ih =>
    intro s hs hn
    have I := ih (s + 1)
    refine pk_le t s (fun z => ?_) (fun z => ?_)
    · have e : s = t := by omega
      rw [e]
      exact K
    · rw [cd_cn_s] at I
      refine cx_first C B (by omega) (fun b => br_f cg_10 ⟨vp_in_nI (by omega) (by omega), ?_⟩) (fun b => br_t rfl (fun y ey => ?_))
      · rw [nI_clamp (n := s) (by omega), nI_clamp (n := t) (by omega)]
        refine cx_holds (by omega) (fun b2 => br_f cg_10 (fun y ey => ?_)) (fun b2 => br_t rfl ⟨vp_in_nI (by omega) (by omega), cx_holds (by omega) (fun b3 => br_f cg_10 (fun y ey => ?_)) (fun b3 => br_t rfl (fun x ex y ey => ?_))⟩)
        · rw [B s t (by omega) (by omega)] at b2
          rw [b, b2] at I
          rw [ey, nI_1]
          exact I (by omega) (by omega)
        · rw [B s t (by omega) (by omega)] at b2
          rw [B t s (by omega) (by omega)] at b3
          rw [b, b2, b3] at I
          rw [ey, nI_1]
          exact I (by omega) (by omega)
        · rw [B s t (by omega) (by omega)] at b2
          rw [B t s (by omega) (by omega)] at b3
          rw [b, b2, b3] at I
          rw [ex, ey, nI_1, nI_1]
          exact I (by omega) (by omega)
      · rw [b] at I
        rw [ey, nI_1]
        exact I (by omega) (by omega)
theorem cx_knotsBefore {post : Int32 → Prop} {t : Nat} (C : cd_Cl r) (B : cg_Be r be) (ht : t < 16) (K : post (nI (cd_kb r t))) : wpX_knotsBefore post (nI w, nI h, sf, tl, ti, un, be) (nI t) := ⟨t + 1, cx_kb C B ht K (t + 1) 0 (by omega) (by omega)⟩
theorem cx_lf {post : Int32 → SX → Prop} (C : cd_Cl r) (B : cg_Be r be) (K : post (nI (cd_sm (fun t => cond (cd_fst r t) (2 ^ cd_kb r t) 0) 16) - 1) (nI w, nI h, sf, tl, ti, un, be)) :
    ∀ n t, t ≤ 16 → 16 - t < n → wX_lifts_8 post (nI w) (nI h) sf tl ti un be n (nI (cd_sm (fun t => cond (cd_fst r t) (2 ^ cd_kb r t) 0) t)) (nI t) := by
  intro n
  induction n with
  | zero => intro t _ hn; omega
  | succ n ih =>
    intro t ht hn
    have I := ih (t + 1)
    refine pk_le 16 t (fun z => ?_) (fun z => ?_)
    · have e : t = 16 := by omega
      rw [e]
      exact K
    · rw [cd_sm_s] at I
      refine cx_first C B (by omega) (fun b => br_f cg_10 (cx_knotsBefore C B (by omega) (fun x ex y ey => ?_))) (fun b => br_t rfl (fun y ey => ?_))
      · rw [b] at I
        have hk : cd_kb r t ≤ t := cj_kb
        rw [ex, ey, nI_1, ce_sh _ (by omega), nI_add]
        exact I (by omega) (by omega)
      · rw [b] at I
        rw [ey, nI_1]
        exact I (by omega) (by omega)
theorem cx_dv {post : Int32 → SX → Prop} (C : cd_Cl r) (B : cg_Be r be) (K : post (nI (cd_pd (fun t => cond (cd_fst r t) (1 + cd_kb r t) 1) 16)) (nI w, nI h, sf, tl, ti, un, be)) :
    ∀ n t, t ≤ 16 → 16 - t < n → wX_divisions_8 post (nI w) (nI h) sf tl ti un be n (nI (cd_pd (fun t => cond (cd_fst r t) (1 + cd_kb r t) 1) t)) (nI t) := by
  intro n
  induction n with
  | zero => intro t _ hn; omega
  | succ n ih =>
    intro t ht hn
    have I := ih (t + 1)
    refine pk_le 16 t (fun z => ?_) (fun z => ?_)
    · have e : t = 16 := by omega
      rw [e]
      exact K
    · rw [cd_pd_s] at I
      refine cx_first C B (by omega) (fun b => br_f cg_10 (cx_knotsBefore C B (by omega) (fun x ex y ey => ?_))) (fun b => br_t rfl (fun y ey => ?_))
      · rw [b] at I
        have e1 : (1 : Int32) + nI (cd_kb r t) = nI (1 + cd_kb r t) := nI_add 1 _
        rw [ex, ey, nI_1, e1, pk_mul]
        exact I (by omega) (by omega)
      · rw [b] at I
        have I2 := I (by omega) (by omega)
        rw [ey, nI_1]
        rw [show cd_pd (fun t => cond (cd_fst r t) (1 + cd_kb r t) 1) t * cond false (1 + cd_kb r t) 1 = cd_pd (fun t => cond (cd_fst r t) (1 + cd_kb r t) 1) t from Nat.mul_one _] at I2
        exact I2
end
end
section
/-! the reference: its small methods, and what it reads off the crossings -/
section
variable {w h nw : Nat} {ct : Int32} {sf tl ti mu pa ne ask wy : Nat → Int32}
theorem cy_isWarp {post : Int32 → Prop} {x : Int32} (hw : w ≤ 8) (h1 : ci_r x w → post 1) (h0 : ¬ ci_r x w → post 0) : wpY_isWarp post (nI w, nI h, ct, sf, tl, ti, mu, pa, ne, ask, wy, nw) x := by
  unfold wpY_isWarp
  try dsimp only
  exact br_c (fun z => h0 (ci_r_lo (by omega) z)) (fun z => br_c (fun q => h0 (ci_r_hi (by omega) q)) (fun q => h1 (ci_r_in (by omega) z q)))
theorem cy_isWeft {post : Int32 → Prop} {x : Int32} (hh : h ≤ 8) (h1 : ci_r x h → post 1) (h0 : ¬ ci_r x h → post 0) : wpY_isWeft post (nI w, nI h, ct, sf, tl, ti, mu, pa, ne, ask, wy, nw) x := by
  unfold wpY_isWeft
  try dsimp only
  exact br_c (fun z => h0 (ci_r_lo (by omega) z)) (fun z => br_c (fun q => h0 (ci_r_hi (by omega) q)) (fun q => h1 (ci_r_in (by omega) z q)))
theorem cy_small {post : Int32 → Prop} {x : Int32} (h1 : ci_r x 4 → post 1) (h0 : ¬ ci_r x 4 → post 0) : wpY_small post (nI w, nI h, ct, sf, tl, ti, mu, pa, ne, ask, wy, nw) x := by
  unfold wpY_small
  try dsimp only
  refine br_c (fun z => h0 (ci_r_lo (by omega) z)) (fun z => ?_)
  obtain ⟨t, ht, rfl⟩ := nI_of z
  refine pk_lt 3 t (fun q => h0 ?_) (fun q => h1 ⟨t, by omega, rfl⟩)
  rintro ⟨j, hj, e⟩
  rw [nI_eq ht (by omega)] at e
  omega
theorem cy_isThread {post : Int32 → Prop} {x : Int32} (hw : w ≤ 8) (hh : h ≤ 8) (h1 : ci_t w h x → post 1) (h0 : ¬ ci_t w h x → post 0) : wpY_isThread post (nI w, nI h, ct, sf, tl, ti, mu, pa, ne, ask, wy, nw) x := by
  unfold wpY_isThread
  try dsimp only
  by_cases hx : x < 0
  · have h8 : ¬ (8 : Int32) ≤ x := by
      have := cx_lt8 hx
      exact Int32.not_le.mpr this
    refine br_f h8 (cy_isWarp hw (fun z => ?_) (fun z => ⟨rfl, h0 ?_⟩))
    · exact absurd z (ci_r_lo (by omega) hx)
    · rintro ⟨t, ht, rfl⟩
      exact nI_pos (by have := ce_th16 hw hh ht; omega) hx
  · obtain ⟨t, ht, rfl⟩ := nI_of hx
    rw [ci_t_nI hw hh ht, cd_th_iff] at h1 h0
    refine pk_le 8 t (fun q => ?_) (fun q => ?_)
    · have e : nI t - 8 = nI (t - 8) := pk_sub (b := 8) q
      rw [e]
      refine cy_isWeft hh (fun z => ⟨rfl, h1 ?_⟩) (fun z => ⟨rfl, h0 (fun a => z ⟨t - 8, by omega, rfl⟩)⟩)
      obtain ⟨j, hj, ej⟩ := z
      rw [nI_eq (by omega) (by omega)] at ej
      omega
    · refine cy_isWarp hw (fun z => ⟨rfl, h1 ?_⟩) (fun z => ⟨rfl, h0 (fun a => z ⟨t, by omega, rfl⟩)⟩)
      obtain ⟨j, hj, ej⟩ := z
      rw [nI_eq (by omega) (by omega)] at ej
      omega
theorem cy_isAbove {post : Int32 → Prop} (O : ci_Ok w h sf tl ti) {c r : Nat} (hc : c < 8) (hr : r < 8) (h1 : ci_A sf tl ti c r = true → post 1) (h0 : ci_A sf tl ti c r = false → post 0) : wpY_isAbove post (nI w, nI h, ct, sf, tl, ti, mu, pa, ne, ask, wy, nw) (nI c) (nI r) := by
  obtain ⟨s, hs, es⟩ := O.2.1 c hc
  obtain ⟨q, hq, eq⟩ := O.2.2.1 r hr
  have e : ci_A sf tl ti c r = bt (ti (nI q).toNatClampNeg) s := by
    unfold ci_A
    rw [es, eq, nI_clamp (n := s) (by omega)]
  rw [e] at h1 h0
  unfold wpY_isAbove
  try dsimp only
  rw [nI_clamp (n := c) (by omega), nI_clamp (n := r) (by omega), es, eq]
  exact ⟨vp_in_nI (by omega) (by omega), vp_in_nI (by omega) (by omega), vp_in_nI (by omega) (by omega), cg_if (ce_bit1 _ (by omega)) h1 h0⟩
theorem cy_crossings {post : Int32 → Prop} {t : Nat} (ht : t < 2 ^ 31) (K : post (nI (cf_cr w h t))) : wpY_crossings post (nI w, nI h, ct, sf, tl, ti, mu, pa, ne, ask, wy, nw) (nI t) := by
  unfold wpY_crossings
  try dsimp only
  refine pk_le 8 t (fun z => ?_) (fun z => ?_)
  · have e : cf_cr w h t = w := if_neg (by omega)
    rw [e] at K
    exact K
  · have e : cf_cr w h t = h := if_pos (by omega)
    rw [e] at K
    exact K
theorem cy_shows {post : Int32 → Prop} (O : ci_Ok w h sf tl ti) {t k : Nat} (ht : t < 16) (hk : k < 8) (h1 : cf_sh (ci_A sf tl ti) t k = true → post 1) (h0 : cf_sh (ci_A sf tl ti) t k = false → post 0) : wpY_shows post (nI w, nI h, ct, sf, tl, ti, mu, pa, ne, ask, wy, nw) (nI t) (nI k) := by
  unfold wpY_shows
  try dsimp only
  refine pk_le 8 t (fun z => ?_) (fun z => ?_)
  · have e : cf_sh (ci_A sf tl ti) t k = !ci_A sf tl ti k (t - 8) := if_neg (by omega)
    have e8 : nI t - 8 = nI (t - 8) := pk_sub (b := 8) z
    rw [e8]
    refine cy_isAbove O hk (by omega) (fun b => br_f cg_10 (h0 ?_)) (fun b => br_t rfl (h1 ?_))
    · rw [e, b]
      try rfl
    · rw [e, b]
      try rfl
  · have e : cf_sh (ci_A sf tl ti) t k = ci_A sf tl ti t k := if_pos (by omega)
    refine cy_isAbove O (by omega) hk (fun b => ⟨rfl, h1 ?_⟩) (fun b => ⟨rfl, h0 ?_⟩)
    · rw [e, b]
    · rw [e, b]
theorem cy_cr8 (O : ci_Ok w h sf tl ti) (t : Nat) : cf_cr w h t ≤ 8 := by
  unfold cf_cr
  have hw := O.1.2.1
  have hh := O.1.2.2.2
  split <;> omega
theorem cy_lg {post : Int32 → Prop} (O : ci_Ok w h sf tl ti) {t : Nat} (ht : t < 16) (K : post (nI (cf_rb (cf_sh (ci_A sf tl ti) t) (cf_cr w h t)).2)) : ∀ n i, i ≤ cf_cr w h t → cf_cr w h t - i < n → wY_longest_17 post (nI t) (nI w) (nI h) ct sf tl ti mu pa ne ask wy nw n (nI (cf_rb (cf_sh (ci_A sf tl ti) t) i).2) (nI (cf_rb (cf_sh (ci_A sf tl ti) t) i).1) (nI i) := by
  have h8 := cy_cr8 O t
  intro n
  induction n with
  | zero => intro i _ hn; omega
  | succ n ih =>
    intro i hi hn
    have hb := cf_rb_le (cf_sh (ci_A sf tl ti) t) i
    have go : ∀ run, run ≤ i + 1 → cond (decide (0 < i) && (cf_sh (ci_A sf tl ti) t i == cf_sh (ci_A sf tl ti) t (i - 1))) ((cf_rb (cf_sh (ci_A sf tl ti) t) i).1 + 1) 1 = run → i < cf_cr w h t → wY_longest_58 post (wY_longest_17 post (nI t) (nI w) (nI h) ct sf tl ti mu pa ne ask wy nw n) (nI t) (nI (cf_rb (cf_sh (ci_A sf tl ti) t) i).2) (nI i) (nI run) (nI w) (nI h) ct sf tl ti mu pa ne ask wy nw := by
      intro run hr e hil
      have e2 : cf_rb (cf_sh (ci_A sf tl ti) t) (i + 1) = (run, if (cf_rb (cf_sh (ci_A sf tl ti) t) i).2 < run then run else (cf_rb (cf_sh (ci_A sf tl ti) t) i).2) := by
        rw [cf_rb_s]
        unfold cf_st
        rw [e]
      have I := ih (i + 1) (by omega) (by omega)
      rw [e2] at I
      dsimp only at I
      refine pk_le run (cf_rb (cf_sh (ci_A sf tl ti) t) i).2 (fun z y ey => ?_) (fun z y ey => ?_)
      · rw [if_neg (by omega)] at I
        rw [ey, nI_1]
        exact I
      · rw [if_pos (by omega)] at I
        rw [ey, nI_1]
        exact I
    rw [wY_longest_17]
    refine cy_crossings (t := t) (by omega) ?_
    refine pk_le (cf_cr w h t) i (fun z => ?_) (fun z => pk_le i 0 (fun q => ?_) (fun q => ?_))
    · have e : i = cf_cr w h t := by omega
      rw [e]
      exact K
    · refine go 1 (by omega) ?_ z
      rw [decide_eq_false (by omega), Bool.false_and]
      try rfl
    · have em : nI i - 1 = nI (i - 1) := pk_sub (b := 1) (by omega)
      rw [em]
      refine cy_shows O ht (by omega) (fun b1 => ?_) (fun b1 => ?_)
      · refine cy_shows O ht (by omega) (fun b2 => ?_) (fun b2 => ?_)
        · refine br_t rfl ?_
          rw [nI_1]
          refine go _ (by omega) ?_ z
          rw [b1, b2, decide_eq_true q]
          try rfl
        · refine br_f cg_10 (go 1 (by omega) ?_ z)
          rw [b1, b2, decide_eq_true q]
          try rfl
      · refine cy_shows O ht (by omega) (fun b2 => ?_) (fun b2 => ?_)
        · refine br_f cg_01 (go 1 (by omega) ?_ z)
          rw [b1, b2, decide_eq_true q]
          try rfl
        · refine br_t rfl ?_
          rw [nI_1]
          refine go _ (by omega) ?_ z
          rw [b1, b2, decide_eq_true q]
          try rfl
theorem cy_ov {post : Int32 → Prop} (O : ci_Ok w h sf tl ti) {t : Nat} (ht : t < 16) (K : post (nI (cd_cn (cf_sh (ci_A sf tl ti) t) (cf_cr w h t)))) : ∀ n i, i ≤ cf_cr w h t → cf_cr w h t - i < n → wY_over_14 post (nI t) (nI w) (nI h) ct sf tl ti mu pa ne ask wy nw n (nI (cd_cn (cf_sh (ci_A sf tl ti) t) i)) (nI i) := by
  have h8 := cy_cr8 O t
  intro n
  induction n with
  | zero => intro i _ hn; omega
  | succ n ih =>
    intro i hi hn
    have I := ih (i + 1)
    rw [wY_over_14]
    refine cy_crossings (t := t) (by omega) ?_
    refine pk_le (cf_cr w h t) i (fun z => ?_) (fun z => ?_)
    · have e : i = cf_cr w h t := by omega
      rw [e]
      exact K
    · rw [cd_cn_s] at I
      refine cy_shows O ht (by omega) (fun b => br_f cg_10 (fun x ex y ey => ?_)) (fun b => br_t rfl (fun y ey => ?_))
      · rw [b] at I
        rw [ex, ey, nI_1, nI_1]
        exact I (by omega) (by omega)
      · rw [b] at I
        rw [ey, nI_1]
        exact I (by omega) (by omega)
theorem cy_al {post : Int32 → Prop} (O : ci_Ok w h sf tl ti) {t u : Nat} (ht : t < 16) (hu : u < 16) (h1 : cf_al (ci_A sf tl ti) w h t u = true → post 1) (h0 : cf_al (ci_A sf tl ti) w h t u = false → post 0) : ∀ n i, i ≤ cf_cr w h t → cf_cr w h t - i < n → (∀ k, k < i → cf_sh (ci_A sf tl ti) t k = cf_sh (ci_A sf tl ti) u k) → wY_alike_2 post (nI t) (nI u) (nI w) (nI h) ct sf tl ti mu pa ne ask wy nw n (nI i) := by
  have h8 := cy_cr8 O t
  intro n
  induction n with
  | zero => intro i _ hn; omega
  | succ n ih =>
    intro i hi hn I
    rw [wY_alike_2]
    refine cy_crossings (t := t) (by omega) ?_
    refine pk_le (cf_cr w h t) i (fun z => h1 ?_) (fun z => ?_)
    · have e : i = cf_cr w h t := by omega
      rw [e] at I
      exact cf_al_iff.mpr I
    · have go : cf_sh (ci_A sf tl ti) t i = cf_sh (ci_A sf tl ti) u i → ∀ y, y = nI i + 1 → wY_alike_2 post (nI t) (nI u) (nI w) (nI h) ct sf tl ti mu pa ne ask wy nw n y := by
        intro e y ey
        rw [ey, nI_1]
        refine ih (i + 1) (by omega) (by omega) (fun k hk => ?_)
        by_cases ek : k = i
        · rw [ek]
          exact e
        · exact I k (by omega)
      have no : cf_sh (ci_A sf tl ti) t i ≠ cf_sh (ci_A sf tl ti) u i → post 0 := fun e => h0 (cd_nt (fun q => e (cf_al_iff.mp q i z)))
      refine cy_shows O ht (by omega) (fun b1 => ?_) (fun b1 => ?_)
      · refine cy_shows O hu (by omega) (fun b2 => br_t rfl (go (by rw [b1, b2]))) (fun b2 => br_f cg_10 (no (by rw [b1, b2]; decide)))
      · refine cy_shows O hu (by omega) (fun b2 => br_f cg_01 (no (by rw [b1, b2]; decide))) (fun b2 => br_t rfl (go (by rw [b1, b2])))
theorem cy_alike {post : Int32 → Prop} (O : ci_Ok w h sf tl ti) {t u : Nat} (ht : t < 16) (hu : u < 16) (h1 : cf_al (ci_A sf tl ti) w h t u = true → post 1) (h0 : cf_al (ci_A sf tl ti) w h t u = false → post 0) : wpY_alike post (nI w, nI h, ct, sf, tl, ti, mu, pa, ne, ask, wy, nw) (nI t) (nI u) :=
  ⟨cf_cr w h t + 1, cy_al O ht hu h1 h0 (cf_cr w h t + 1) 0 (by omega) (by omega) (fun k hk => absurd hk (Nat.not_lt_zero k))⟩
theorem cy_df19 {post : Int32 → Prop} {J : Int32 → Int32 → Prop} (O : ci_Ok w h sf tl ti) {f t : Nat} {x1 x2 x3 : Int32} (ht : t < 16)
    (h1 : cf_nw (fun s t => cf_al (ci_A sf tl ti) w h t s) f t = true → J (x3 + 1) (nI (t + 1))) (h0 : cf_nw (fun s t => cf_al (ci_A sf tl ti) w h t s) f t = false → J x3 (nI (t + 1))) :
    ∀ n s (b : Bool), f ≤ s → s ≤ t → t - s < n → (b = true → ∀ s', s' < s → f ≤ s' → cf_al (ci_A sf tl ti) w h t s' = false) → (b = false → cf_nw (fun s t => cf_al (ci_A sf tl ti) w h t s) f t = false) → wY_different_19 post J x1 x2 x3 (nI t) (nI w) (nI h) ct sf tl ti mu pa ne ask wy nw n (nI b.toNat) (nI s) := by
  intro n
  induction n with
  | zero => intro s b _ _ hn; omega
  | succ n ih =>
    intro s b hf hs hn I1 I0
    refine pk_le t s (fun z => ?_) (fun z => ?_)
    · have e : s = t := by omega
      cases b with
      | false =>
        refine br_t ce_n01.2.2.1 (fun y ey => ?_)
        rw [ey, nI_1]
        exact h0 (I0 rfl)
      | true =>
        refine br_f ce_n01.2.2.2 (fun x ex y ey => ?_)
        rw [ex, ey, nI_1]
        rw [e] at I1
        exact h1 (cf_nw_iff.mpr (I1 rfl))
    · cases b with
      | false =>
        refine br_t ce_n01.2.2.1 (fun y ey => ?_)
        rw [ey, nI_1]
        exact ih (s + 1) false (by omega) (by omega) (by omega) (fun q => Bool.noConfusion q) I0
      | true =>
        refine br_f ce_n01.2.2.2 (cy_alike O ht (by omega) (fun a => br_f cg_10 (fun y ey => ?_)) (fun a => br_t rfl (fun y ey => ?_)))
        · rw [ey, nI_1]
          refine ih (s + 1) false (by omega) (by omega) (by omega) (fun q => Bool.noConfusion q) (fun _ => cd_nt (fun q => ?_))
          exact cd_tf (cf_nw_iff.mp q s z hf) a
        · rw [ey, nI_1]
          refine ih (s + 1) true (by omega) (by omega) (by omega) (fun _ s' hs' hf' => ?_) (fun q => Bool.noConfusion q)
          by_cases e : s' = s
          · rw [e]
            exact a
          · exact I1 rfl s' (by omega) hf'
theorem cy_df5 {post : Int32 → Prop} (O : ci_Ok w h sf tl ti) {f m : Nat} (hm : f + m ≤ 16) (K : post (nI (cd_cn (fun j => cf_nw (fun s t => cf_al (ci_A sf tl ti) w h t s) f (f + j)) m))) :
    ∀ n j, j ≤ m → m - j < n → wY_different_5 post (nI f) (nI m) (nI w) (nI h) ct sf tl ti mu pa ne ask wy nw n (nI (cd_cn (fun j => cf_nw (fun s t => cf_al (ci_A sf tl ti) w h t s) f (f + j)) j)) (nI (f + j)) := by
  intro n
  induction n with
  | zero => intro j _ hn; omega
  | succ n ih =>
    intro j hj hn
    have I := ih (j + 1)
    refine pk_le (f + m) (f + j) (fun z => ?_) (fun z => ?_) (nI_add f m)
    · have e : j = m := by omega
      rw [e]
      exact K
    · rw [cd_cn_s] at I
      refine ⟨j + 1, cy_df19 (f := f) O (by omega) (fun b => ?_) (fun b => ?_) (j + 1) f true (Nat.le_refl f) (by omega) (by omega) (fun _ s' a b => by omega) (fun q => Bool.noConfusion q)⟩
      · rw [b] at I
        rw [nI_1]
        exact I (by omega) (by omega)
      · rw [b] at I
        exact I (by omega) (by omega)
theorem cy_different {post : Int32 → Prop} (O : ci_Ok w h sf tl ti) {f m : Nat} (hm : f + m ≤ 16) (K : post (nI (cd_cn (fun j => cf_nw (fun s t => cf_al (ci_A sf tl ti) w h t s) f (f + j)) m))) : wpY_different post (nI w, nI h, ct, sf, tl, ti, mu, pa, ne, ask, wy, nw) (nI f) (nI m) :=
  ⟨m + 1, cy_df5 O hm K (m + 1) 0 (by omega) (by omega)⟩
end
end
section
/-! the reference: what can be lifted off, its closure, its knots -/
section
variable {w h nw : Nat} {ct : Int32} {sf tl ti mu pa ne ask wy : Nat → Int32}
theorem cy_covers {post : Int32 → Prop} (O : ci_Ok w h sf tl ti) {u t : Nat} (hu : cd_th w h u = true) (ht : cd_th w h t = true) (h1 : cd_ab (ci_A sf tl ti) w h u t = true → post 1) (h0 : cd_ab (ci_A sf tl ti) w h u t = false → post 0) : wpY_covers post (nI w, nI h, ct, sf, tl, ti, mu, pa, ne, ask, wy, nw) (nI u) (nI t) := by
  have hw := O.1.2.1
  have hh := O.1.2.2.2
  have u16 := ce_th16 hw hh hu
  have t16 := ce_th16 hw hh ht
  have tq := cd_th_iff.mp ht
  rw [ch_cov hw hu ht] at h1 h0
  unfold wpY_covers
  try dsimp only
  refine pk_le 8 u (fun a => pk_le 8 t (fun b => ?_) (fun b => ?_)) (fun a => pk_le 8 t (fun b => ?_) (fun b => ?_))
  · exact br_t rfl (h0 (if_pos (by omega)))
  · rw [if_neg (by omega), if_pos (by omega)] at h1 h0
    exact br_f cg_01 (br_f (nI_ge (b := 8) (by omega) (by omega)) (cy_shows O u16 (by omega) (fun z => ⟨rfl, h1 z⟩) (fun z => ⟨rfl, h0 z⟩)))
  · rw [if_neg (by omega), if_neg (by omega)] at h1 h0
    have e8 : nI t - 8 = nI (t - 8) := pk_sub (b := 8) b
    refine br_f cg_10 (br_t (nI_le (a := 8) b (by omega)) ?_)
    rw [e8]
    exact cy_shows O u16 (by omega) (fun z => ⟨rfl, h1 z⟩) (fun z => ⟨rfl, h0 z⟩)
  · exact br_t rfl (h0 (if_pos (by omega)))
theorem cy_li18 {post : Int32 → Prop} {J : Int32 → Prop} {x own : Int32} (O : ci_Ok w h sf tl ti) (hown : ∀ i, i < 32 → bt own i = (bt x i && cd_th w h i)) {t : Nat} (ht : t < 16)
    (h0 : cf_lift (ci_A sf tl ti) w h (bt x) = false → post 0) (K : (∀ u, u < 16 → bt x t = true → bt x u = false → cd_ab (ci_A sf tl ti) w h u t = false) → J (nI (t + 1))) :
    ∀ n u, u ≤ 16 → 16 - u < n → (∀ u', u' < u → bt x t = true → bt x u' = false → cd_ab (ci_A sf tl ti) w h u' t = false) → wY_liftable_18 post J own (nI t) (nI w) (nI h) ct sf tl ti mu pa ne ask wy nw n (nI u) := by
  have hw := O.1.2.1
  have hh := O.1.2.2.2
  intro n
  induction n with
  | zero => intro u _ hn; omega
  | succ n ih =>
    intro u hu hn I
    refine pk_le 16 u (fun z y ey => ?_) (fun z => ?_)
    · have e : u = 16 := by omega
      rw [e] at I
      rw [ey, nI_1]
      exact K I
    · have nx : (bt x t = true → bt x u = false → cd_ab (ci_A sf tl ti) w h u t = false) → ∀ y, y = nI u + 1 → wY_liftable_18 post J own (nI t) (nI w) (nI h) ct sf tl ti mu pa ne ask wy nw n y := by
        intro q y ey
        rw [ey, nI_1]
        refine ih (u + 1) (by omega) (by omega) (fun u' hu' a b => ?_)
        by_cases e : u' = u
        · rw [e] at b ⊢
          exact q a b
        · exact I u' (by omega) a b
      have noT : ∀ {s v : Nat}, cd_th w h v = false → cd_ab (ci_A sf tl ti) w h s v = false := fun {s v} hf => cd_nt (fun q => cd_tf hf (cd_ab_th q).2)
      have noU : ∀ {s v : Nat}, cd_th w h s = false → cd_ab (ci_A sf tl ti) w h s v = false := fun {s v} hf => cd_nt (fun q => cd_tf hf (cd_ab_th q).1)
      refine cg_if (ce_bit1 own (by omega)) (fun b1 => cg_fi (ce_bit0 own (by omega)) (fun b2 => ?_) (fun b2 => ?_)) (fun b1 => ?_)
      · rw [hown u (by omega), Bool.and_eq_true] at b2
        exact br_t rfl (nx (fun _ b => (cd_tf b b2.1).elim))
      · rw [hown t (by omega), Bool.and_eq_true] at b1
        refine cy_isThread hw hh (fun q => br_f cg_10 (br_f cg_10 ?_)) (fun q => br_t rfl (br_t rfl (nx (fun _ _ => noU (cd_nt (fun p => q ((ci_t_nI hw hh (by omega)).mpr p)))))))
        have hu' : cd_th w h u = true := (ci_t_nI hw hh (by omega)).mp q
        have hxu : bt x u = false := by
          rw [hown u (by omega), hu', Bool.and_true] at b2
          exact b2
        refine cy_covers O hu' b1.2 (fun c => br_f cg_10 (h0 (cd_nt (fun p => ?_)))) (fun c => br_t rfl (nx (fun _ _ => c)))
        exact cd_tf (cf_lift_iff.mp p u (by omega) hxu t ht b1.1) c
      · refine br_t rfl (nx (fun a _ => noT (cd_nt (fun p => ?_))))
        rw [hown t (by omega), a, p] at b1
        exact Bool.noConfusion b1
theorem cy_li9 {post : Int32 → Prop} {x own : Int32} (O : ci_Ok w h sf tl ti) (hown : ∀ i, i < 32 → bt own i = (bt x i && cd_th w h i))
    (h1 : cf_lift (ci_A sf tl ti) w h (bt x) = true → post 1) (h0 : cf_lift (ci_A sf tl ti) w h (bt x) = false → post 0) :
    ∀ n t, t ≤ 16 → 16 - t < n → (∀ t', t' < t → ∀ u, u < 16 → bt x t' = true → bt x u = false → cd_ab (ci_A sf tl ti) w h u t' = false) → wY_liftable_9 post own (nI w) (nI h) ct sf tl ti mu pa ne ask wy nw n (nI t) := by
  intro n
  induction n with
  | zero => intro t _ hn; omega
  | succ n ih =>
    intro t ht hn I
    refine pk_le 16 t (fun z => h1 ?_) (fun z => ?_)
    · have e : t = 16 := by omega
      rw [e] at I
      exact cf_lift_iff.mpr (fun u hu hxu t' ht' hxt => I t' ht' u hu hxt hxu)
    · refine ⟨17, cy_li18 O hown (by omega) h0 (fun q => ?_) 17 0 (by omega) (by omega) (fun u' hu' => absurd hu' (Nat.not_lt_zero u'))⟩
      refine ih (t + 1) (by omega) (by omega) (fun t' ht' u hu a b => ?_)
      by_cases e : t' = t
      · rw [e] at a ⊢
        exact q u hu a b
      · exact I t' (by omega) u hu a b
theorem cy_liftable {post : Int32 → Prop} {x : Int32} (O : ci_Ok w h sf tl ti) (h1 : cf_lift (ci_A sf tl ti) w h (bt x) = true → post 1) (h0 : cf_lift (ci_A sf tl ti) w h (bt x) = false → post 0) : wpY_liftable post (nI w, nI h, ct, sf, tl, ti, mu, pa, ne, ask, wy, nw) x := by
  unfold wpY_liftable wpY_everything
  try dsimp only
  intro y ey
  rw [ey]
  exact ⟨17, cy_li9 O (fun i hi => cj_own O.1.2.1 O.1.2.2.2 x hi) h1 h0 17 0 (by omega) (by omega) (fun t' ht' => absurd ht' (Nat.not_lt_zero t'))⟩
variable {r : Nat → Nat → Bool}
theorem cy_held {post : Int32 → Prop} {a b : Nat} (M : ch_Mf r mu) (ha : a < 16) (hb : b < 16) (ra : r a a = true) (rb : r b b = true) (h1 : cd_eq r a b = true → post 1) (h0 : cd_eq r a b = false → post 0) : wpY_held post (nI w, nI h, ct, sf, tl, ti, mu, pa, ne, ask, wy, nw) (nI a) (nI b) := by
  unfold wpY_held
  try dsimp only
  refine ⟨vp_in_nI ha (by omega), ?_⟩
  rw [nI_clamp (n := a) (by omega), nI_clamp (n := b) (by omega)]
  refine cg_if (ce_bit1 _ (by omega)) (fun c => ⟨vp_in_nI hb (by omega), cg_if (ce_bit1 _ (by omega)) (fun d => h1 ?_) (fun d => h0 ?_)⟩) (fun c => h0 ?_)
  · rw [M a b ra] at c
    rw [M b a rb] at d
    exact cd_eq_iff.mpr ⟨d, c⟩
  · rw [M b a rb] at d
    exact cd_nt (fun q => cd_tf d (cd_eq_iff.mp q).1)
  · rw [M a b ra] at c
    exact cd_nt (fun q => cd_tf c (cd_eq_iff.mp q).2)
theorem cy_sp22 {post : SY → Prop} {J : Int32 → Int32 → (Nat → Int32) → (Nat → Int32) → (Nat → Int32) → (Nat → Int32) → (Nat → Int32) → (Nat → Int32) → (Nat → Int32) → (Nat → Int32) → Prop} {c : Nat}
    (hw : w ≤ 8) (hh : h ≤ 8) (hr : ∀ s, r s s = cd_th w h s) (C : cd_Cl r) (M : ch_Mf r mu) {t : Nat} (ht : t < 16) (hc : c < 16)
    (K1 : cd_fst r t = true → ∀ s, (∀ i, i < 32 → bt s i = cd_eq r t i) → J (nI (t + 1)) (nI (c + 1)) sf tl ti mu (upd pa c s) (upd ne c (mu t)) ask wy)
    (K0 : cd_fst r t = false → J (nI (t + 1)) (nI c) sf tl ti mu pa ne ask wy) :
    ∀ j s l, j ≤ 16 → ch_Sp r t j s l → wY_split_22 post J (nI t) (nI w) (nI h) (nI c) sf tl ti mu pa ne ask wy nw (j + 1) s (nI l) (nI j + (-1)) := by
  intro j
  induction j with
  | zero =>
    intro s l _ I
    have hl : l ≤ 16 := by
      rcases I.2 with q | q <;> omega
    have hr16 : ∀ i, r i i = true → i < 16 := fun i hi => ce_th16 hw hh (by rw [← hr i]; exact hi)
    have key := ch_Sp_l I ht
    refine br_t (by decide) (pk_eq l t (fun e => ?_) (fun e => ?_))
    · refine ⟨vp_in_nI hc (by omega), fun a1 e1 => ⟨vp_in_nI ht (by omega), vp_in_nI hc (by omega), fun a2 e2 y ey z ez => ?_⟩⟩
      rw [ey, ez, e1, e2, nI_1, nI_1, nI_clamp (n := c) (by omega), nI_clamp (n := t) (by omega)]
      exact K1 (key.mp e) s (ch_Sp_b hr16 C I)
    · intro y ey
      rw [ey, nI_1]
      exact K0 (cd_nt (fun q => e (key.mpr q)))
  | succ j ih =>
    intro s l hj I
    rw [pk_m1]
    have no : cd_eq r t j = false → ∀ y, y = nI j + (-1) → wY_split_22 post J (nI t) (nI w) (nI h) (nI c) sf tl ti mu pa ne ask wy nw (j + 1) s (nI l) y := by
      intro q y ey
      rw [ey]
      exact ih s l (by omega) (ch_Sp_n I q)
    refine br_f (nI_pos (by omega)) ?_
    refine cy_isThread hw hh (fun q => br_f cg_10 ?_) (fun q => br_t rfl (no (cd_nt (fun p => q ((ci_t_nI hw hh (by omega)).mpr ?_)))))
    · refine cy_isThread hw hh (fun p => br_f cg_10 ?_) (fun p => br_t rfl (no (cd_nt (fun a => p ((ci_t_nI hw hh (by omega)).mpr ?_)))))
      · have q' := (ci_t_nI hw hh (by omega)).mp q
        have p' := (ci_t_nI hw hh (by omega)).mp p
        refine cy_held M ht (by omega) (by rw [hr]; exact q') (by rw [hr]; exact p') (fun a => br_f cg_10 (fun x ex y ey => ?_)) (fun a => br_t rfl (no a))
        rw [ex, ey]
        exact ih _ j (by omega) (ch_Sp_y I (by omega) a)
      · rw [← hr]
        exact (C.1 t j (cd_eq_iff.mp a).1).2
    · rw [← hr]
      exact (C.1 t j (cd_eq_iff.mp p).1).1
theorem cy_sp7 {post : SY → Prop} (hw : w ≤ 8) (hh : h ≤ 8) (hr : ∀ s, r s s = cd_th w h s) (C : cd_Cl r) (M : ch_Mf r mu)
    (K : ∀ pa' ne', ch_Pn r mu 16 pa' ne' → post (nI w, nI h, nI (cd_cn (cd_fst r) 16), sf, tl, ti, mu, pa', ne', ask, wy, nw)) :
    ∀ n t pa ne, t ≤ 16 → 16 - t < n → ch_Pn r mu t pa ne → wY_split_7 post (nI w) (nI h) nw n (nI t) (nI (cd_cn (cd_fst r) t)) sf tl ti mu pa ne ask wy := by
  intro n
  induction n with
  | zero => intro t pa ne _ hn; omega
  | succ n ih =>
    intro t pa ne ht hn I
    refine pk_le 16 t (fun z => ?_) (fun z => ?_)
    · have e : t = 16 := by omega
      rw [e] at I ⊢
      exact K pa ne I
    · have hc := cd_cn_le (cd_fst r) t
      refine ⟨17, cy_sp22 (c := cd_cn (cd_fst r) t) hw hh hr C M (by omega) (by omega) (fun b s hs => ?_) (fun b => ?_) 16 0 16 (by omega) (ch_Sp_0 r t)⟩
      · have q := ih (t + 1) _ _ (by omega) (by omega) (ch_Pn_y I b hs)
        rw [cd_cn_s, b] at q
        exact q
      · have q := ih (t + 1) _ _ (by omega) (by omega) (ch_Pn_n I b)
        rw [cd_cn_s, b] at q
        exact q
theorem cy_split {post : SY → Prop} (hw : w ≤ 8) (hh : h ≤ 8) (hr : ∀ s, r s s = cd_th w h s) (C : cd_Cl r) (M : ch_Mf r mu)
    (K : ∀ pa' ne', ch_Pn r mu 16 pa' ne' → post (nI w, nI h, nI (cd_cn (cd_fst r) 16), sf, tl, ti, mu, pa', ne', ask, wy, nw)) : wpY_split post (nI w, nI h, ct, sf, tl, ti, mu, pa, ne, ask, wy, nw) :=
  ⟨17, cy_sp7 hw hh hr C M K 17 0 pa ne (by omega) (by omega) (fun s hs => absurd hs (Nat.not_lt_zero s))⟩
theorem cy_wk41 {post : SY → Prop} {J25 : Int32 → (Nat → Int32) → (Nat → Int32) → (Nat → Int32) → (Nat → Int32) → (Nat → Int32) → (Nat → Int32) → (Nat → Int32) → (Nat → Int32) → Prop}
    {J33 : Int32 → Int32 → (Nat → Int32) → (Nat → Int32) → (Nat → Int32) → (Nat → Int32) → (Nat → Int32) → (Nat → Int32) → (Nat → Int32) → (Nat → Int32) → Prop} (O : ci_Ok w h sf tl ti) {m0 : Nat → Int32} {t : Nat} (ht : t < 16)
    (K : ∀ m b, ch_Pa (ci_A sf tl ti) w h m0 t 16 m b → J33 (nI b.toNat) (nI (t + 1)) sf tl ti m pa ne ask wy) :
    ∀ n u m b, u ≤ 16 → 16 - u < n → ch_Pa (ci_A sf tl ti) w h m0 t u m b → wY_work_41 post J25 J33 (nI t) (nI w) (nI h) ct nw n (nI b.toNat) (nI u) sf tl ti m pa ne ask wy := by
  have hw := O.1.2.1
  have hh := O.1.2.2.2
  intro n
  induction n with
  | zero => intro u m b _ hn; omega
  | succ n ih =>
    intro u m b hu hn I
    refine pk_le 16 u (fun z y ey => ?_) (fun z => ?_)
    · have e : u = 16 := by omega
      rw [e] at I
      rw [ey, nI_1]
      exact K m b I
    · have nx : (cd_ab (ci_A sf tl ti) w h u t = true → m u &&& (m t ^^^ (-1)) = 0) → ∀ y, y = nI u + 1 → wY_work_41 post J25 J33 (nI t) (nI w) (nI h) ct nw n (nI b.toNat) y sf tl ti m pa ne ask wy := by
        intro q y ey
        rw [ey, nI_1]
        exact ih (u + 1) m b (by omega) (by omega) (ch_Pa_n I q)
      refine cy_isThread hw hh (fun q => br_f cg_10 ?_) (fun q => br_t rfl (br_t rfl (nx (fun a => absurd ((ci_t_nI hw hh (by omega)).mpr (cd_ab_th a).2) q))))
      refine cy_isThread hw hh (fun p => br_f cg_10 ?_) (fun p => br_t rfl (br_t rfl (nx (fun a => absurd ((ci_t_nI hw hh (by omega)).mpr (cd_ab_th a).1) p))))
      refine cy_covers O ((ci_t_nI hw hh (by omega)).mp p) ((ci_t_nI hw hh (by omega)).mp q) (fun a => br_f cg_10 (br_f cg_10 ⟨vp_in_nI (by omega) (by omega), vp_in_nI (by omega) (by omega), ?_⟩)) (fun a => br_t rfl (br_t rfl (nx (fun a' => (cd_tf a a').elim))))
      rw [nI_clamp (n := u) (by omega), nI_clamp (n := t) (by omega)]
      refine br_c (fun e => nx (fun _ => e)) (fun e => ⟨vp_in_nI (by omega) (by omega), vp_in_nI (by omega) (by omega), vp_in_nI (by omega) (by omega), fun m' em y ey => ?_⟩)
      rw [em, ey, nI_1]
      exact ih (u + 1) _ true (by omega) (by omega) (ch_Pa_y hw I ht (by omega) a e)
theorem cy_wk33 {post : SY → Prop} {J25 : Int32 → (Nat → Int32) → (Nat → Int32) → (Nat → Int32) → (Nat → Int32) → (Nat → Int32) → (Nat → Int32) → (Nat → Int32) → (Nat → Int32) → Prop} (O : ci_Ok w h sf tl ti) {m0 : Nat → Int32}
    (K : ∀ m b, ch_Pa (ci_A sf tl ti) w h m0 16 0 m b → J25 (nI b.toNat) sf tl ti m pa ne ask wy) :
    ∀ n t m b, t ≤ 16 → 16 - t < n → ch_Pa (ci_A sf tl ti) w h m0 t 0 m b → wY_work_33 post J25 (nI w) (nI h) ct nw n (nI b.toNat) (nI t) sf tl ti m pa ne ask wy := by
  intro n
  induction n with
  | zero => intro t m b _ hn; omega
  | succ n ih =>
    intro t m b ht hn I
    refine pk_le 16 t (fun z => ?_) (fun z => ?_)
    · have e : t = 16 := by omega
      rw [e] at I
      exact K m b I
    · exact ⟨17, cy_wk41 O (by omega) (fun m' b' I' => ih (t + 1) m' b' (by omega) (by omega) (ch_Pa_r I')) 17 0 m b (by omega) (by omega) I⟩
theorem cy_wk25 {post : SY → Prop} (O : ci_Ok w h sf tl ti) (K : ∀ mu' pa' ne', ch_Mf (cd_rr (ci_A sf tl ti) w h) mu' → ch_Pn (cd_rr (ci_A sf tl ti) w h) mu' 16 pa' ne' → post (nI w, nI h, nI (cd_cn (cd_fst (cd_rr (ci_A sf tl ti) w h)) 16), sf, tl, ti, mu', pa', ne', ask, wy, nw)) :
    ∀ N m0, ce_mu m0 < N → ch_Mu (ci_A sf tl ti) w h m0 → wY_work_25 post (nI w) (nI h) ct nw (N + 1) 1 sf tl ti m0 pa ne ask wy := by
  have hw := O.1.2.1
  have hh := O.1.2.2.2
  intro N
  induction N with
  | zero => intro m0 hN; omega
  | succ N ih =>
    intro m0 hN I
    refine br_f cg_10 ⟨17, cy_wk33 O (fun m b I' => ?_) 17 0 m0 false (by omega) (by omega) (ch_Pa_0 I)⟩
    cases b with
    | false => exact br_t ce_n01.2.2.1 (cy_split hw hh (fun s => cd_rr_th) (cd_rr_Cl _ hw) (ch_Pa_e hw hh I') (fun pa' ne' P => K m pa' ne' (ch_Pa_e hw hh I') P))
    | true => exact ih m (by have := I'.2.2 rfl; omega) I'.1
theorem cy_wk2 {post : SY → Prop} (O : ci_Ok w h sf tl ti) (K : ∀ mu' pa' ne', ch_Mf (cd_rr (ci_A sf tl ti) w h) mu' → ch_Pn (cd_rr (ci_A sf tl ti) w h) mu' 16 pa' ne' → post (nI w, nI h, nI (cd_cn (cd_fst (cd_rr (ci_A sf tl ti) w h)) 16), sf, tl, ti, mu', pa', ne', ask, wy, nw)) :
    ∀ n t, t ≤ 16 → 16 - t < n → wY_work_2 post (nI w) (nI h) ct nw n (nI t) sf tl ti (ci_fill mu (fun t => (1 : Int32) <<< (nI t &&& 31)) t) pa ne ask wy := by
  intro n
  induction n with
  | zero => intro t _ hn; omega
  | succ n ih =>
    intro t ht hn
    have I := ih (t + 1)
    refine pk_le 16 t (fun z => ?_) (fun z => ⟨vp_in_nI (by omega) (by omega), fun a ea y ey => ?_⟩)
    · have e : t = 16 := by omega
      exact ⟨_, cy_wk25 O K _ _ (Nat.lt_succ_self _) (ch_Mu_0 (fun s hs => by rw [e]; exact ci_fill_lt _ _ hs))⟩
    · rw [ea, ey, nI_1, nI_clamp (n := t) (by omega), ci_fill_s mu (fun t => (1 : Int32) <<< (nI t &&& 31)) t rfl]
      exact I (by omega) (by omega)
theorem cy_work {post : SY → Prop} (O : ci_Ok w h sf tl ti) (K : ∀ mu' pa' ne', ch_Mf (cd_rr (ci_A sf tl ti) w h) mu' → ch_Pn (cd_rr (ci_A sf tl ti) w h) mu' 16 pa' ne' → post (nI w, nI h, nI (cd_cn (cd_fst (cd_rr (ci_A sf tl ti) w h)) 16), sf, tl, ti, mu', pa', ne', ask, wy, nw)) : wpY_work post (nI w, nI h, ct, sf, tl, ti, mu, pa, ne, ask, wy, nw) := by
  have q := cy_wk2 (mu := mu) (ct := ct) (pa := pa) (ne := ne) O K 17 0 (by omega) (by omega)
  rw [ci_fill_0] at q
  exact ⟨17, q⟩
end
end
section
/-! the reference: its sweep over the sets of knots -/
section
variable {w h nw n : Nat} {sf tl ti mu pa ne ask wy : Nat → Int32} {L : Nat → Nat → Bool}
theorem cy_sw19 {post : Int32 → SY → Prop} {J2 : Int32 → (Nat → Int32) → (Nat → Int32) → (Nat → Int32) → (Nat → Int32) → (Nat → Int32) → (Nat → Int32) → (Nat → Int32) → (Nat → Int32) → Prop} (hn : n ≤ 16) {k : Nat} (hk : k < n) (hO : cd_Ord n L)
    (hA : ∀ j, j < n → j ≠ k → (pa j &&& ne k = 0 ↔ L j k = false))
    (K : ∀ a, ch_As L n k n a → J2 (nI (k + 1)) sf tl ti mu pa ne a wy) :
    ∀ f j a, j ≤ n → n - j < f → ch_As L n k j a → wY_sweep_19 post J2 (nI k) (nI w) (nI h) (nI n) nw f (nI j) sf tl ti mu pa ne a wy := by
  intro f
  induction f with
  | zero => intro j a _ hf; omega
  | succ f ih =>
    intro j a hj hf I
    refine pk_le n j (fun z y ey => ?_) (fun z => pk_eq j k (fun e y ey => ?_) (fun e => ⟨vp_in_nI (by omega) (by omega), vp_in_nI (by omega) (by omega), ?_⟩))
    · have e : j = n := by omega
      rw [e] at I
      rw [ey, nI_1]
      exact K a I
    · rw [ey, nI_1]
      refine ih (j + 1) a (by omega) (by omega) (ch_As_n I ?_)
      rw [e]
      exact hO.1 k hk
    · rw [nI_clamp (n := j) (by omega), nI_clamp (n := k) (by omega)]
      refine cg_fi (hA j z e) (fun b => ⟨vp_in_nI (by omega) (by omega), vp_in_nI (by omega) (by omega), fun a' ea y ey => ?_⟩) (fun b y ey => ?_)
      · rw [ea, ey, nI_1]
        exact ih (j + 1) _ (by omega) (by omega) (ch_As_y I (by omega) b)
      · rw [ey, nI_1]
        exact ih (j + 1) a (by omega) (by omega) (ch_As_n I b)
theorem cy_sw132 {post : Int32 → SY → Prop} {J108 : Int32 → Int32 → (Nat → Int32) → (Nat → Int32) → (Nat → Int32) → (Nat → Int32) → (Nat → Int32) → (Nat → Int32) → (Nat → Int32) → (Nat → Int32) → Prop} {x1 : Int32} (hn : n ≤ 16) (hO : cd_Ord n L)
    (hA : ∀ k', k' < n → ∀ i, i < 32 → bt (ask k') i = (decide (i < n) && L i k')) {S : Nat} (hS : S < 2 ^ n)
    (K : ∀ a, ch_Wk L n S n a → J108 x1 (nI (S + 1)) sf tl ti mu pa ne ask a) :
    ∀ f k a, k ≤ n → n - k < f → ch_Wk L n S k a → wY_sweep_132 post J108 x1 (nI S) (nI w) (nI h) (nI n) 65536 f (nI k) sf tl ti mu pa ne ask a := by
  have hp := cj_pw hn
  intro f
  induction f with
  | zero => intro k a _ hf; omega
  | succ f ih =>
    intro k a hk hf I
    refine pk_le n k (fun z y ey => ?_) (fun z => ?_)
    · have e : k = n := by omega
      rw [e] at I
      rw [ey, nI_1]
      exact K a I
    · have nx : (!S.testBit k && cd_ok L n S k) = false → ∀ y, y = nI k + 1 → wY_sweep_132 post J108 x1 (nI S) (nI w) (nI h) (nI n) 65536 f y sf tl ti mu pa ne ask a := by
        intro q y ey
        rw [ey, nI_1]
        exact ih (k + 1) a (by omega) (by omega) (ch_Wk_n I q)
      refine cg_fi (ce_bit0 (nI S) (by omega)) (fun b => br_t rfl (nx ?_)) (fun b => ⟨vp_in_nI (by omega) (by omega), ?_⟩)
      · rw [ce_nI S (by omega)] at b
        rw [b]
        try rfl
      · rw [ce_nI S (by omega)] at b
        rw [nI_clamp (n := k) (by omega)]
        refine cg_if (ch_ok hn hA z) (fun c => br_f cg_10 ?_) (fun c => br_t rfl (nx ?_))
        · have hor := ch_or_lt hS z
          rw [ce_sh k (by omega), ce_nor, nI_clamp (n := S ||| 2 ^ k) (by omega), nI_clamp (n := S) (by omega)]
          refine ⟨vp_in_nI (by omega) (by omega), vp_in_nI (by omega) (by omega), vp_in_nI (by omega) (by omega), fun a' ea y ey => ?_⟩
          rw [ea, ey, nI_1]
          exact ih (k + 1) _ (by omega) (by omega) (ch_Wk_y hO I hS z (by rw [b, c]; try rfl))
        · rw [c, Bool.and_false]
theorem cy_sw108 {post : Int32 → SY → Prop} (hn : n ≤ 16) (hO : cd_Ord n L) (hv : ∀ S, cd_val L n S < 2147483648)
    (hA : ∀ k', k' < n → ∀ i, i < 32 → bt (ask k') i = (decide (i < n) && L i k'))
    (K : ∀ a, (∀ T, T < 2 ^ n → a T = nI (cd_val L n T)) → post (nI (cd_cn (fun S => cd_cl L n S.testBit) (2 ^ n))) (nI w, nI h, nI n, sf, tl, ti, mu, pa, ne, ask, a, 65536)) :
    ∀ f S a, S ≤ 2 ^ n → 2 ^ n - S < f → ch_Wk L n S 0 a → wY_sweep_108 post (nI w) (nI h) (nI n) 65536 f (nI (cd_cn (fun S => cd_cl L n S.testBit) S)) (nI S) sf tl ti mu pa ne ask a := by
  have hp := cj_pw hn
  intro f
  induction f with
  | zero => intro S a _ hf; omega
  | succ f ih =>
    intro S a hS hf I
    refine pk_le (2 ^ n) S (fun z => ?_) (fun z => ⟨vp_in_nI (by omega) (by omega), ?_⟩) (ce_sh n (by omega))
    · have e : S = 2 ^ n := by omega
      rw [e] at I ⊢
      refine K a (fun T hT => ?_)
      rw [I T hT, cd_W_T hO hT (by omega)]
      rfl
    · rw [nI_clamp (n := S) (by omega), ch_Wk_S hO I z]
      have hvS := hv S
      have J := fun a' => ih (S + 1) a'
      rw [cd_cn_s] at J
      refine pk_le (cd_val L n S) 0 (fun q y ey => ?_) (fun q y ey => ?_)
      · have hc : cd_cl L n S.testBit = false := cd_nt (fun p => by have := cd_v_pos.mpr p; omega)
        rw [hc] at J
        rw [ey, nI_1]
        exact J a (by omega) (by omega) (ch_Wk_z I (by omega))
      · have hc : cd_cl L n S.testBit = true := cd_v_pos.mp q
        rw [hc] at J
        rw [ey, nI_1]
        exact ⟨n + 1, cy_sw132 hn hO hA z (fun a' I' => J a' (by omega) (by omega) (ch_Wk_e I')) (n + 1) 0 a (by omega) (by omega) I⟩
theorem cy_sw74 {post : Int32 → SY → Prop} (hn : n ≤ 16) (hO : cd_Ord n L) (hv : ∀ S, cd_val L n S < 2147483648)
    (hA : ∀ k', k' < n → ∀ i, i < 32 → bt (ask k') i = (decide (i < n) && L i k'))
    (K : ∀ a, (∀ T, T < 2 ^ n → a T = nI (cd_val L n T)) → post (nI (cd_cn (fun S => cd_cl L n S.testBit) (2 ^ n))) (nI w, nI h, nI n, sf, tl, ti, mu, pa, ne, ask, a, 65536)) :
    ∀ f S a, 1 ≤ S → S ≤ 2 ^ n → 2 ^ n - S < f → (∀ T, 0 < T → T < S → a T = 0) → wY_sweep_74 post (nI w) (nI h) (nI n) 65536 f (nI S) sf tl ti mu pa ne ask a := by
  have hp := cj_pw hn
  intro f
  induction f with
  | zero => intro S a _ _ hf; omega
  | succ f ih =>
    intro S a h1 hS hf I
    refine pk_le (2 ^ n) S (fun z => ⟨vp_in_nI (n := 0) (by omega) (by omega), fun a' ea => ?_⟩) (fun z => ⟨vp_in_nI (by omega) (by omega), fun a' ea y ey => ?_⟩) (ce_sh n (by omega))
    · have e : S = 2 ^ n := by omega
      have e0 : (0 : Int32).toNatClampNeg = 0 := by decide
      rw [e0] at ea
      rw [ea]
      refine ⟨2 ^ n + 1, cy_sw108 hn hO hv hA K (2 ^ n + 1) 0 _ (by omega) (by omega) (ch_Wk_0 pk_us (fun T hT hT' => ?_))⟩
      rw [pk_un (by omega)]
      exact I T hT (by omega)
    · rw [ea, ey, nI_1, nI_clamp (n := S) (by omega)]
      refine ih (S + 1) _ (by omega) (by omega) (by omega) (fun T hT hT' => ?_)
      by_cases e : T = S
      · rw [e, pk_us]
      · rw [pk_un e]
        exact I T hT (by omega)
theorem cy_sw2 {post : Int32 → SY → Prop} (hn : n ≤ 16) (hO : cd_Ord n L) (hv : ∀ S, cd_val L n S < 2147483648)
    (hP : ∀ k j, k < n → j < n → j ≠ k → (pa j &&& ne k = 0 ↔ L j k = false))
    (K : ∀ ask' a, (∀ T, T < 2 ^ n → a T = nI (cd_val L n T)) → post (nI (cd_cn (fun S => cd_cl L n S.testBit) (2 ^ n))) (nI w, nI h, nI n, sf, tl, ti, mu, pa, ne, ask', a, 65536)) :
    ∀ f k a, k ≤ n → n - k < f → (∀ k', k' < k → ∀ i, i < 32 → bt (a k') i = (decide (i < n) && L i k')) → wY_sweep_2 post (nI w) (nI h) (nI n) 65536 f (nI k) sf tl ti mu pa ne a wy := by
  have hp := cj_pw hn
  have hp1 : 1 ≤ 2 ^ n := Nat.two_pow_pos n
  intro f
  induction f with
  | zero => intro k a _ hf; omega
  | succ f ih =>
    intro k a hk hf I
    refine pk_le n k (fun z => ?_) (fun z => ⟨vp_in_nI (by omega) (by omega), fun a' ea => ?_⟩)
    · have e : k = n := by omega
      rw [e] at I
      exact ⟨2 ^ n + 1, cy_sw74 hn hO hv I (K a) (2 ^ n + 1) 1 wy (by omega) hp1 (by omega) (fun T hT hT' => by omega)⟩
    · rw [ea, nI_clamp (n := k) (by omega)]
      exact ⟨n + 1, cy_sw19 hn z hO (fun j hj hne => hP k j z hj hne) (fun b hb => ih (k + 1) b (by omega) (by omega) (ch_As_e hb)) (n + 1) 0 _ (by omega) (by omega) (ch_As_0 I)⟩
theorem cy_sweep {post : Int32 → SY → Prop} {r : Nat → Nat → Bool} (C : cd_Cl r) (hr : ∀ i, r i i = true → i < 16) (M : ch_Mf r mu) (P : ch_Pn r mu 16 pa ne)
    (K : ∀ ask' a, (∀ T, T < 2 ^ cd_cn (cd_fst r) 16 → a T = nI (cd_val (cd_L r) (cd_cn (cd_fst r) 16) T)) → post (nI (1 + cd_sm (fun t => cond (cd_fst r t) (2 ^ cd_kb r t) 0) 16)) (nI w, nI h, nI (cd_cn (cd_fst r) 16), sf, tl, ti, mu, pa, ne, ask', a, 65536)) :
    wpY_sweep post (nI w, nI h, nI (cd_cn (cd_fst r) 16), sf, tl, ti, mu, pa, ne, ask, wy, 65536) := by
  have K' : ∀ ask' a, (∀ T, T < 2 ^ cd_cn (cd_fst r) 16 → a T = nI (cd_val (cd_L r) (cd_cn (cd_fst r) 16) T)) → post (nI (cd_cn (fun S => cd_cl (cd_L r) (cd_cn (cd_fst r) 16) S.testBit) (2 ^ cd_cn (cd_fst r) 16))) (nI w, nI h, nI (cd_cn (cd_fst r) 16), sf, tl, ti, mu, pa, ne, ask', a, 65536) := by
    rw [cd_lifts C]
    exact K
  exact ⟨cd_cn (cd_fst r) 16 + 1, cy_sw2 (cd_cn_le _ _) (cd_L_Ord C 16) (fun S => cd_vb C S) (fun k j hk hj hne => ch_ask C hr M P hk hj hne) K' (cd_cn (cd_fst r) 16 + 1) 0 ask (by omega) (by omega) (fun k' hk' => absurd hk' (Nat.not_lt_zero k'))⟩
end
end
section
/-! the loops that set all warps, all wefts, all ties -/
section
variable {w h nw : Nat} {ct : Int32} {sf tl ti un be mu pa ne ask wy : Nat → Int32}
theorem cz_rem {f s c : Nat} (hf : f < 4) (hs : s < 4) (hc : c < 8) : (nI f + nI s * nI c) - (nI f + nI s * nI c) / 4 * 4 = nI ((f + s * c) % 4) := by
  have hb : s * c ≤ 3 * 7 := Nat.mul_le_mul (by omega) (by omega)
  rw [pk_mul, nI_add]
  exact pk_rem (d := 4) (by omega) (by omega) (by omega)
theorem cx_ta {post : Int32 → SX → Prop} {f s : Nat} (hw : w ≤ 8) (hf : f < 4) (hs : s < 4) (K : post 0 (nI w, nI h, ci_fill sf (fun c => nI ((f + s * c) % 4)) w, tl, ti, un, be)) :
    ∀ n c, c ≤ w → w - c < n → wX_threadAll_20 post (nI f) (nI s) (nI w) (nI h) n (nI c) (ci_fill sf (fun c => nI ((f + s * c) % 4)) c) tl ti un be := by
  intro n
  induction n with
  | zero => intro c _ hn; omega
  | succ n ih =>
    intro c hc hn
    refine pk_le w c (fun z => ?_) (fun z => ⟨by decide, vp_in_nI (by omega) (by omega), fun a ea y ey => ?_⟩)
    · have e : c = w := by omega
      rw [e]
      exact K
    · rw [ea, ey, nI_1, nI_clamp (n := c) (by omega), cz_rem hf hs (by omega), ci_fill_s sf (fun c => nI ((f + s * c) % 4)) c rfl]
      exact ih (c + 1) (by omega) (by omega)
theorem cx_tra {post : Int32 → SX → Prop} {f s : Nat} (hh : h ≤ 8) (hf : f < 4) (hs : s < 4) (K : post 0 (nI w, nI h, sf, ci_fill tl (fun c => nI ((f + s * c) % 4)) h, ti, un, be)) :
    ∀ n c, c ≤ h → h - c < n → wX_treadleAll_20 post (nI f) (nI s) (nI w) (nI h) n (nI c) sf (ci_fill tl (fun c => nI ((f + s * c) % 4)) c) ti un be := by
  intro n
  induction n with
  | zero => intro c _ hn; omega
  | succ n ih =>
    intro c hc hn
    refine pk_le h c (fun z => ?_) (fun z => ⟨by decide, vp_in_nI (by omega) (by omega), fun a ea y ey => ?_⟩)
    · have e : c = h := by omega
      rw [e]
      exact K
    · rw [ea, ey, nI_1, nI_clamp (n := c) (by omega), cz_rem hf hs (by omega), ci_fill_s tl (fun c => nI ((f + s * c) % 4)) c rfl]
      exact ih (c + 1) (by omega) (by omega)
theorem cy_ta {post : Int32 → SY → Prop} {f s : Nat} (hw : w ≤ 8) (hf : f < 4) (hs : s < 4) (K : post 0 (nI w, nI h, ct, ci_fill sf (fun c => nI ((f + s * c) % 4)) w, tl, ti, mu, pa, ne, ask, wy, nw)) :
    ∀ n c, c ≤ w → w - c < n → wY_threadAll_20 post (nI f) (nI s) (nI w) (nI h) ct nw n (nI c) (ci_fill sf (fun c => nI ((f + s * c) % 4)) c) tl ti mu pa ne ask wy := by
  intro n
  induction n with
  | zero => intro c _ hn; omega
  | succ n ih =>
    intro c hc hn
    refine pk_le w c (fun z => ?_) (fun z => ⟨by decide, vp_in_nI (by omega) (by omega), fun a ea y ey => ?_⟩)
    · have e : c = w := by omega
      rw [e]
      exact K
    · rw [ea, ey, nI_1, nI_clamp (n := c) (by omega), cz_rem hf hs (by omega), ci_fill_s sf (fun c => nI ((f + s * c) % 4)) c rfl]
      exact ih (c + 1) (by omega) (by omega)
theorem cy_tra {post : Int32 → SY → Prop} {f s : Nat} (hh : h ≤ 8) (hf : f < 4) (hs : s < 4) (K : post 0 (nI w, nI h, ct, sf, ci_fill tl (fun c => nI ((f + s * c) % 4)) h, ti, mu, pa, ne, ask, wy, nw)) :
    ∀ n c, c ≤ h → h - c < n → wY_treadleAll_20 post (nI f) (nI s) (nI w) (nI h) ct nw n (nI c) sf (ci_fill tl (fun c => nI ((f + s * c) % 4)) c) ti mu pa ne ask wy := by
  intro n
  induction n with
  | zero => intro c _ hn; omega
  | succ n ih =>
    intro c hc hn
    refine pk_le h c (fun z => ?_) (fun z => ⟨by decide, vp_in_nI (by omega) (by omega), fun a ea y ey => ?_⟩)
    · have e : c = h := by omega
      rw [e]
      exact K
    · rw [ea, ey, nI_1, nI_clamp (n := c) (by omega), cz_rem hf hs (by omega), ci_fill_s tl (fun c => nI ((f + s * c) % 4)) c rfl]
      exact ih (c + 1) (by omega) (by omega)
def cz_sum (ti : Nat → Int32) : Nat → Nat := cd_sm (fun i => cd_cn (bt (15 - ti i)) 4)
theorem cz_sum_s (ti : Nat → Int32) (i : Nat) : cz_sum ti (i + 1) = cz_sum ti i + cd_cn (bt (15 - ti i)) 4 := rfl
theorem cx_iv {post : Int32 → SX → Prop} (O : ci_Ok w h sf tl ti) (K : post (nI (cz_sum ti 4)) (nI w, nI h, sf, tl, ci_fill ti (fun i => 15 - ti i) 4, un, be)) :
    ∀ n i, i ≤ 4 → 4 - i < n → wX_invert_4 post (nI w) (nI h) n (nI (cz_sum ti i)) (nI i) sf tl (ci_fill ti (fun i => 15 - ti i) i) un be := by
  intro n
  induction n with
  | zero => intro i _ hn; omega
  | succ n ih =>
    intro i hi hn
    refine pk_le 4 i (fun z => ?_) (fun z => ⟨vp_in_nI (by omega) (by omega), vp_in_nI (by omega) (by omega), fun a ea => ⟨vp_in_nI (by omega) (by omega), ?_⟩⟩)
    · have e : i = 4 := by omega
      rw [e]
      exact K
    · rw [nI_clamp (n := i) (by omega), ci_fill_j, ci_fill_s ti (fun i => 15 - ti i) i rfl] at ea
      rw [ea, nI_clamp (n := i) (by omega), ci_fill_lt ti (fun i => 15 - ti i) (Nat.lt_succ_self i)]
      refine cx_sizeOf (fun x ex y ey => ?_)
      obtain ⟨s, hs, es⟩ := O.2.2.2 i (by omega)
      have e4 : cd_cn (bt (15 - ti i)) 16 = cd_cn (bt (15 - ti i)) 4 := by
        rw [es, ci_15 s hs]
        exact ci_b4 _ (by omega)
      rw [ex, ey, nI_1, e4, nI_add]
      exact ih (i + 1) (by omega) (by omega)
theorem cy_iv26 {post : Int32 → SY → Prop} {J : Int32 → Int32 → (Nat → Int32) → (Nat → Int32) → (Nat → Int32) → (Nat → Int32) → (Nat → Int32) → (Nat → Int32) → (Nat → Int32) → (Nat → Int32) → Prop} {i m : Nat} (hi : i < 4)
    (K : J (nI (m + cd_cn (bt (ti i)) 4)) (nI (i + 1)) sf tl ti mu pa ne ask wy) :
    ∀ n j, j ≤ 4 → 4 - j < n → wY_invert_26 post J (nI i) (nI w) (nI h) ct sf tl ti mu pa ne ask wy nw n (nI (m + cd_cn (bt (ti i)) j)) (nI j) := by
  intro n
  induction n with
  | zero => intro j _ hn; omega
  | succ n ih =>
    intro j hj hn
    refine pk_le 4 j (fun z y ey => ?_) (fun z => ⟨vp_in_nI (by omega) (by omega), fun x ex y ey => ?_⟩)
    · have e : j = 4 := by omega
      rw [ey, nI_1, e]
      exact K
    · rw [ex, ey, nI_1, nI_clamp (n := i) (by omega), ce_bit _ (by omega), nI_add, Nat.add_assoc]
      exact ih (j + 1) (by omega) (by omega)
theorem cy_iv {post : Int32 → SY → Prop} (K : post (nI (cz_sum ti 4)) (nI w, nI h, ct, sf, tl, ci_fill ti (fun i => 15 - ti i) 4, mu, pa, ne, ask, wy, nw)) :
    ∀ n i, i ≤ 4 → 4 - i < n → wY_invert_4 post (nI w) (nI h) ct nw n (nI (cz_sum ti i)) (nI i) sf tl (ci_fill ti (fun i => 15 - ti i) i) mu pa ne ask wy := by
  intro n
  induction n with
  | zero => intro i _ hn; omega
  | succ n ih =>
    intro i hi hn
    refine pk_le 4 i (fun z => ?_) (fun z => ⟨vp_in_nI (by omega) (by omega), vp_in_nI (by omega) (by omega), fun a ea => ?_⟩)
    · have e : i = 4 := by omega
      rw [e]
      exact K
    · rw [nI_clamp (n := i) (by omega), ci_fill_j, ci_fill_s ti (fun i => 15 - ti i) i rfl] at ea
      rw [ea]
      refine ⟨5, cy_iv26 (m := cz_sum ti i) z ?_ 5 0 (by omega) (by omega)⟩
      rw [ci_fill_lt ti (fun i => 15 - ti i) (Nat.lt_succ_self i)]
      exact ih (i + 1) (by omega) (by omega)
end
end
section
/-! what is owed -/
/-- both sides hold the same sizes, threading, treadling and ties; what they work out anew in each call is free -/
def i_Rel (k : Nat) (u : SX) (v : SY) : Prop := ∃ (w h : Nat) (sf tl ti un be mu pa ne ask wy : Nat → Int32) (ct : Int32), ci_Ok w h sf tl ti ∧ u = (nI w, nI h, sf, tl, ti, un, be) ∧ v = (nI w, nI h, ct, sf, tl, ti, mu, pa, ne, ask, wy, 65536)
theorem i_up {k : Nat} {u : SX} {v : SY} (h : i_Rel k u v) : i_Rel (k + 3) u v := h
theorem cz_rel {k w h : Nat} {sf tl ti un be mu pa ne ask wy : Nat → Int32} {ct : Int32} (O : ci_Ok w h sf tl ti) : i_Rel k (nI w, nI h, sf, tl, ti, un, be) (nI w, nI h, ct, sf, tl, ti, mu, pa, ne, ask, wy, 65536) :=
  ⟨w, h, sf, tl, ti, un, be, mu, pa, ne, ask, wy, ct, O, rfl, rfl⟩
theorem cz_cl (x : Int32) : ∃ w, 1 ≤ w ∧ w ≤ 8 ∧ ∀ P : Int32 → Prop, P (nI w) → ((1 ≤ x → ((x ≤ 8 → P x) ∧ (¬ x ≤ 8 → P 8))) ∧ (¬ 1 ≤ x → P 1)) := by
  by_cases h1 : 1 ≤ x
  · by_cases h8 : x ≤ 8
    · have hx : ¬ x < 0 := by
        rw [Int32.lt_iff_toInt_lt]
        rw [Int32.le_iff_toInt_le] at h1
        have e0 : (0 : Int32).toInt = 0 := by decide
        have e1 : (1 : Int32).toInt = 1 := by decide
        omega
      obtain ⟨j, hj, rfl⟩ := nI_of hx
      have a1 : 1 ≤ j := (nI_leI (a := 1) (by omega) hj).mp h1
      have a8 : j ≤ 8 := (nI_leI (b := 8) hj (by omega)).mp h8
      exact ⟨j, a1, a8, fun P p => br_t h1 (br_t h8 p)⟩
    · exact ⟨8, by omega, by omega, fun P p => br_t h1 (br_f h8 p)⟩
  · exact ⟨1, by omega, by omega, fun P p => br_f h1 p⟩
theorem cz_ok0 {w h : Nat} (h1 : 1 ≤ w) (h2 : w ≤ 8) (h3 : 1 ≤ h) (h4 : h ≤ 8) : ci_Ok w h (fun _ => 0) (fun _ => 0) (fun _ => 0) :=
  ⟨⟨h1, h2, h3, h4⟩, fun _ _ => ⟨0, by omega, rfl⟩, fun _ _ => ⟨0, by omega, rfl⟩, fun _ _ => ⟨0, by omega, rfl⟩⟩
theorem i_vc0 (k0 : Int32) (k1 : Int32) : wpX_init (fun u => wpY_init (fun v => i_Rel 2 u v) k0 k1) k0 k1 := by
  obtain ⟨w, w1, w8, cw⟩ := cz_cl k0
  obtain ⟨h, h1, h8, ch⟩ := cz_cl k1
  have X1 : ∀ post : Int32 → Prop, post (nI w) → wpX_clamp post k0 8 := fun post p => cw post p
  have X2 : ∀ post : Int32 → Prop, post (nI h) → wpX_clamp post k1 8 := fun post p => ch post p
  unfold wpX_init
  refine X1 _ (X2 _ ?_)
  unfold wpY_init
  refine ⟨by decide, fun nw enw => ?_⟩
  have e : nw = 65536 := enw.trans (by decide)
  subst e
  refine ⟨by omega, ?_⟩
  exact cw (fun z => wY_init_89 (fun v => i_Rel 2 (nI w, nI h, (fun _ => 0), (fun _ => 0), (fun _ => 0), (fun _ => 0), (fun _ => 0)) v) k1 z 0 0 0 (fun _ => 0) (fun _ => 0) (fun _ => 0) (fun _ => 0) (fun _ => 0) (fun _ => 0) (fun _ => 0) (fun _ => 0) 65536)
    (ch (fun z => i_Rel 2 (nI w, nI h, (fun _ => 0), (fun _ => 0), (fun _ => 0), (fun _ => 0), (fun _ => 0)) (nI w, z, 0, (fun _ => 0), (fun _ => 0), (fun _ => 0), (fun _ => 0), (fun _ => 0), (fun _ => 0), (fun _ => 0), (fun _ => 0), 65536)) (cz_rel (cz_ok0 w1 w8 h1 h8)))
theorem i_vc_thread {k : Nat} {u : SX} {v : SY} (I : i_Rel k u v) (hk : k + 3 ≤ 1538) (v1 : Int32) (v2 : Int32) : wpX_thread (fun r u' => wpY_thread (fun r' v' => r' = r ∧ i_Rel (k + 3) u' v') v v1 v2) u v1 v2 := by
  obtain ⟨w, h, sf, tl, ti, un, be, mu, pa, ne, ask, wy, ct, O, rfl, rfl⟩ := I
  have hw := O.1.2.1
  unfold wpX_thread wpY_thread
  dsimp only
  refine cx_isWarp hw (fun a => br_f cg_10 ?_) (fun a => br_t rfl (cy_isWarp hw (fun b => absurd b a) (fun b => br_t rfl ⟨rfl, cz_rel O⟩)))
  refine cx_isWithin (n := 4) (by omega) (fun b => br_f cg_10 ?_) (fun b => br_t rfl (cy_isWarp hw (fun _ => br_f cg_10 (cy_small (fun d => absurd d b) (fun d => br_t rfl ⟨rfl, cz_rel O⟩))) (fun c => absurd a c)))
  obtain ⟨c, hc, rfl⟩ := a
  obtain ⟨s, hs, rfl⟩ := b
  refine ⟨vp_in_nI (by omega) (by omega), fun x ex => ⟨vp_in_nI (by omega) (by omega), fun a1 e1 => ?_⟩⟩
  refine cy_isWarp hw (fun _ => br_f cg_10 (cy_small (fun _ => br_f cg_10 ⟨vp_in_nI (by omega) (by omega), fun y ey => ⟨vp_in_nI (by omega) (by omega), fun a2 e2 => ⟨ey.trans ex.symm, ?_⟩⟩⟩) (fun q => absurd ⟨s, hs, rfl⟩ q))) (fun q => absurd ⟨c, hc, rfl⟩ q)
  rw [e1, e2]
  exact cz_rel (ci_Ok_sf O (ci_upd O.2.1 hs))
theorem i_vc_treadle {k : Nat} {u : SX} {v : SY} (I : i_Rel k u v) (hk : k + 3 ≤ 1538) (v1 : Int32) (v2 : Int32) : wpX_treadle (fun r u' => wpY_treadle (fun r' v' => r' = r ∧ i_Rel (k + 3) u' v') v v1 v2) u v1 v2 := by
  obtain ⟨w, h, sf, tl, ti, un, be, mu, pa, ne, ask, wy, ct, O, rfl, rfl⟩ := I
  have hh := O.1.2.2.2
  unfold wpX_treadle wpY_treadle
  dsimp only
  refine cx_isWeft hh (fun a => br_f cg_10 ?_) (fun a => br_t rfl (cy_isWeft hh (fun b => absurd b a) (fun b => br_t rfl ⟨rfl, cz_rel O⟩)))
  refine cx_isWithin (n := 4) (by omega) (fun b => br_f cg_10 ?_) (fun b => br_t rfl (cy_isWeft hh (fun _ => br_f cg_10 (cy_small (fun d => absurd d b) (fun d => br_t rfl ⟨rfl, cz_rel O⟩))) (fun c => absurd a c)))
  obtain ⟨c, hc, rfl⟩ := a
  obtain ⟨s, hs, rfl⟩ := b
  refine ⟨vp_in_nI (by omega) (by omega), fun x ex => ⟨vp_in_nI (by omega) (by omega), fun a1 e1 => ?_⟩⟩
  refine cy_isWeft hh (fun _ => br_f cg_10 (cy_small (fun _ => br_f cg_10 ⟨vp_in_nI (by omega) (by omega), fun y ey => ⟨vp_in_nI (by omega) (by omega), fun a2 e2 => ⟨ey.trans ex.symm, ?_⟩⟩⟩) (fun q => absurd ⟨s, hs, rfl⟩ q))) (fun q => absurd ⟨c, hc, rfl⟩ q)
  rw [e1, e2]
  exact cz_rel (ci_Ok_tl O (ci_upd O.2.2.1 hs))
theorem i_vc_tie {k : Nat} {u : SX} {v : SY} (I : i_Rel k u v) (hk : k + 3 ≤ 1538) (v1 : Int32) (v2 : Int32) : wpX_tie (fun r u' => wpY_tie (fun r' v' => r' = r ∧ i_Rel (k + 3) u' v') v v1 v2) u v1 v2 := by
  obtain ⟨w, h, sf, tl, ti, un, be, mu, pa, ne, ask, wy, ct, O, rfl, rfl⟩ := I
  unfold wpX_tie wpY_tie
  dsimp only
  refine cx_isWithin (n := 4) (by omega) (fun a => br_f cg_10 ?_) (fun a => br_t rfl (cy_small (fun b => absurd b a) (fun b => br_t rfl ⟨rfl, cz_rel O⟩)))
  refine cx_isWithin (n := 16) (by omega) (fun b => br_f cg_10 ?_) (fun b => br_t rfl (cy_small (fun _ => br_f cg_10 ?_) (fun c => absurd a c)))
  · obtain ⟨c, hc, rfl⟩ := a
    obtain ⟨s, hs, rfl⟩ := b
    refine ⟨vp_in_nI (by omega) (by omega), fun x ex => ⟨vp_in_nI (by omega) (by omega), fun a1 e1 => ?_⟩⟩
    refine cy_small (fun _ => br_f cg_10 (br_f (nI_pos (by omega)) (br_t (nI_le (b := 15) (by omega) (by omega)) ⟨vp_in_nI (by omega) (by omega), fun y ey => ⟨vp_in_nI (by omega) (by omega), fun a2 e2 => ⟨ey.trans ex.symm, ?_⟩⟩⟩))) (fun q => absurd ⟨c, hc, rfl⟩ q)
    rw [e1, e2]
    exact cz_rel (ci_Ok_ti O (ci_upd O.2.2.2 hs))
  · refine br_c (fun _ => ⟨rfl, cz_rel O⟩) (fun n0 => br_f ?_ ⟨rfl, cz_rel O⟩)
    obtain ⟨t, ht, rfl⟩ := nI_of n0
    intro q
    exact b ⟨t, by have := (nI_leI (b := 15) ht (by omega)).mp q; omega, rfl⟩
theorem i_vc_threadAll {k : Nat} {u : SX} {v : SY} (I : i_Rel k u v) (hk : k + 3 ≤ 1538) (v1 : Int32) (v2 : Int32) : wpX_threadAll (fun r u' => wpY_threadAll (fun r' v' => r' = r ∧ i_Rel (k + 3) u' v') v v1 v2) u v1 v2 := by
  obtain ⟨w, h, sf, tl, ti, un, be, mu, pa, ne, ask, wy, ct, O, rfl, rfl⟩ := I
  have hw := O.1.2.1
  unfold wpX_threadAll wpY_threadAll
  dsimp only
  refine cx_isWithin (n := 4) (by omega) (fun a => br_f cg_10 ?_) (fun a => br_t rfl (cy_small (fun b => absurd b a) (fun b => br_t rfl ⟨rfl, cz_rel O⟩)))
  refine cx_isWithin (n := 4) (by omega) (fun b => br_f cg_10 ?_) (fun b => br_t rfl (cy_small (fun _ => br_f cg_10 (cy_small (fun d => absurd d b) (fun d => br_t rfl ⟨rfl, cz_rel O⟩))) (fun c => absurd a c)))
  obtain ⟨f, hf, rfl⟩ := a
  obtain ⟨s, hs, rfl⟩ := b
  have R : i_Rel (k + 3) (nI w, nI h, ci_fill sf (fun c => nI ((f + s * c) % 4)) w, tl, ti, un, be) (nI w, nI h, ct, ci_fill sf (fun c => nI ((f + s * c) % 4)) w, tl, ti, mu, pa, ne, ask, wy, 65536) :=
    cz_rel (ci_Ok_sf O (ci_fillOk O.2.1 (fun c _ => ⟨_, Nat.mod_lt _ (by omega), rfl⟩)))
  have Y := fun (post : Int32 → SY → Prop) => cy_ta (h := h) (nw := 65536) (ct := ct) (sf := sf) (tl := tl) (ti := ti) (mu := mu) (pa := pa) (ne := ne) (ask := ask) (wy := wy) (post := post) hw hf hs
  have X := fun (post : Int32 → SX → Prop) => cx_ta (h := h) (sf := sf) (tl := tl) (ti := ti) (un := un) (be := be) (post := post) hw hf hs
  have Y' := fun post K => Y post K (w + 1) 0 (by omega) (by omega)
  have X' := fun post K => X post K (w + 1) 0 (by omega) (by omega)
  rw [ci_fill_0] at Y' X'
  exact ⟨w + 1, X' _ (cy_small (fun _ => br_f cg_10 (cy_small (fun _ => br_f cg_10 ⟨w + 1, Y' _ ⟨rfl, R⟩⟩) (fun q => absurd ⟨s, hs, rfl⟩ q))) (fun q => absurd ⟨f, hf, rfl⟩ q))⟩
theorem i_vc_treadleAll {k : Nat} {u : SX} {v : SY} (I : i_Rel k u v) (hk : k + 3 ≤ 1538) (v1 : Int32) (v2 : Int32) : wpX_treadleAll (fun r u' => wpY_treadleAll (fun r' v' => r' = r ∧ i_Rel (k + 3) u' v') v v1 v2) u v1 v2 := by
  obtain ⟨w, h, sf, tl, ti, un, be, mu, pa, ne, ask, wy, ct, O, rfl, rfl⟩ := I
  have hh := O.1.2.2.2
  unfold wpX_treadleAll wpY_treadleAll
  dsimp only
  refine cx_isWithin (n := 4) (by omega) (fun a => br_f cg_10 ?_) (fun a => br_t rfl (cy_small (fun b => absurd b a) (fun b => br_t rfl ⟨rfl, cz_rel O⟩)))
  refine cx_isWithin (n := 4) (by omega) (fun b => br_f cg_10 ?_) (fun b => br_t rfl (cy_small (fun _ => br_f cg_10 (cy_small (fun d => absurd d b) (fun d => br_t rfl ⟨rfl, cz_rel O⟩))) (fun c => absurd a c)))
  obtain ⟨f, hf, rfl⟩ := a
  obtain ⟨s, hs, rfl⟩ := b
  have R : i_Rel (k + 3) (nI w, nI h, sf, ci_fill tl (fun c => nI ((f + s * c) % 4)) h, ti, un, be) (nI w, nI h, ct, sf, ci_fill tl (fun c => nI ((f + s * c) % 4)) h, ti, mu, pa, ne, ask, wy, 65536) :=
    cz_rel (ci_Ok_tl O (ci_fillOk O.2.2.1 (fun c _ => ⟨_, Nat.mod_lt _ (by omega), rfl⟩)))
  have Y := fun (post : Int32 → SY → Prop) => cy_tra (w := w) (nw := 65536) (ct := ct) (sf := sf) (tl := tl) (ti := ti) (mu := mu) (pa := pa) (ne := ne) (ask := ask) (wy := wy) (post := post) hh hf hs
  have X := fun (post : Int32 → SX → Prop) => cx_tra (w := w) (sf := sf) (tl := tl) (ti := ti) (un := un) (be := be) (post := post) hh hf hs
  have Y' := fun post K => Y post K (h + 1) 0 (by omega) (by omega)
  have X' := fun post K => X post K (h + 1) 0 (by omega) (by omega)
  rw [ci_fill_0] at Y' X'
  exact ⟨h + 1, X' _ (cy_small (fun _ => br_f cg_10 (cy_small (fun _ => br_f cg_10 ⟨h + 1, Y' _ ⟨rfl, R⟩⟩) (fun q => absurd ⟨s, hs, rfl⟩ q))) (fun q => absurd ⟨f, hf, rfl⟩ q))⟩
theorem i_vc_invert {k : Nat} {u : SX} {v : SY} (I : i_Rel k u v) (hk : k + 3 ≤ 1538) : wpX_invert (fun r u' => wpY_invert (fun r' v' => r' = r ∧ i_Rel (k + 3) u' v') v) u := by
  obtain ⟨w, h, sf, tl, ti, un, be, mu, pa, ne, ask, wy, ct, O, rfl, rfl⟩ := I
  have R : i_Rel (k + 3) (nI w, nI h, sf, tl, ci_fill ti (fun i => 15 - ti i) 4, un, be) (nI w, nI h, ct, sf, tl, ci_fill ti (fun i => 15 - ti i) 4, mu, pa, ne, ask, wy, 65536) :=
    cz_rel (ci_Ok_ti O (ci_fillOk O.2.2.2 (fun c hc => by
      obtain ⟨s, hs, es⟩ := O.2.2.2 c hc
      exact ⟨15 - s, by omega, by rw [es]; exact ci_15 s hs⟩)))
  have Y' := fun (post : Int32 → SY → Prop) K => cy_iv (w := w) (h := h) (nw := 65536) (ct := ct) (sf := sf) (tl := tl) (ti := ti) (mu := mu) (pa := pa) (ne := ne) (ask := ask) (wy := wy) (post := post) K 5 0 (by omega) (by omega)
  have X' := fun (post : Int32 → SX → Prop) K => cx_iv (un := un) (be := be) (post := post) O K 5 0 (by omega) (by omega)
  rw [ci_fill_0] at Y' X'
  unfold wpX_invert wpY_invert
  dsimp only
  exact ⟨5, X' _ ⟨5, Y' _ ⟨rfl, R⟩⟩⟩
theorem i_vc_above {k : Nat} {u : SX} {v : SY} (I : i_Rel k u v) (hk : k + 3 ≤ 1538) (v1 : Int32) (v2 : Int32) : wpX_above (fun r => wpY_above (fun r' => r' = r ∧ i_Rel (k + 3) u v) v v1 v2) u v1 v2 := by
  have I3 := i_up I
  obtain ⟨w, h, sf, tl, ti, un, be, mu, pa, ne, ask, wy, ct, O, rfl, rfl⟩ := I
  have hw := O.1.2.1
  have hh := O.1.2.2.2
  unfold wpX_above wpY_above
  dsimp only
  refine cx_isWarp hw (fun a => br_f cg_10 ?_) (fun a => br_t rfl (cy_isWarp hw (fun b => absurd b a) (fun b => br_t rfl ⟨rfl, I3⟩)))
  refine cx_isWeft hh (fun b => br_f cg_10 ?_) (fun b => br_t rfl (cy_isWarp hw (fun _ => br_f cg_10 (cy_isWeft hh (fun d => absurd d b) (fun d => br_t rfl ⟨rfl, I3⟩))) (fun c => absurd a c)))
  obtain ⟨c, hc, rfl⟩ := a
  obtain ⟨s, hs, rfl⟩ := b
  refine cx_above O (by omega) (by omega) (fun e => br_f cg_10 ?_) (fun e => br_t rfl ?_)
  · exact cy_isWarp hw (fun _ => br_f cg_10 (cy_isWeft hh (fun _ => br_f cg_10 (cy_isAbove O (by omega) (by omega) (fun _ => br_f cg_10 ⟨rfl, I3⟩) (fun e' => (cd_tf e' e).elim))) (fun q => absurd ⟨s, hs, rfl⟩ q))) (fun q => absurd ⟨c, hc, rfl⟩ q)
  · exact cy_isWarp hw (fun _ => br_f cg_10 (cy_isWeft hh (fun _ => br_f cg_10 (cy_isAbove O (by omega) (by omega) (fun e' => (cd_tf e e').elim) (fun _ => br_t rfl ⟨rfl, I3⟩))) (fun q => absurd ⟨s, hs, rfl⟩ q))) (fun q => absurd ⟨c, hc, rfl⟩ q)
end
section
/-! what is owed: the rest -/
theorem i_vc_longest {k : Nat} {u : SX} {v : SY} (I : i_Rel k u v) (hk : k + 3 ≤ 1538) (v1 : Int32) : wpX_longest (fun r u' => wpY_longest (fun r' => r' = r ∧ i_Rel (k + 3) u' v) v v1) u v1 := by
  obtain ⟨w, h, sf, tl, ti, un, be, mu, pa, ne, ask, wy, ct, O, rfl, rfl⟩ := I
  have hw := O.1.2.1
  have hh := O.1.2.2.2
  unfold wpX_longest wpY_longest
  dsimp only
  refine cx_isThread hw hh (fun a => br_f cg_10 ?_) (fun a => br_t rfl (cy_isThread hw hh (fun b => absurd b a) (fun b => br_t rfl ⟨rfl, cz_rel O⟩)))
  obtain ⟨t, ht16, ht, rfl⟩ := ci_t_16 hw hh a
  refine cx_findUnder O (fun un' U => ?_)
  try dsimp only
  have tq := cd_th_iff.mp ht
  have h8 := cy_cr8 O t
  refine cx_isWarp hw (fun b => br_f cg_10 ⟨vp_in_nI ht16 (by omega), ?_⟩) (fun b => br_t rfl ⟨vp_in_nI ht16 (by omega), ?_⟩)
  · obtain ⟨j, hj, ej⟩ := b
    rw [nI_eq (by omega) (by omega)] at ej
    have e : cf_cr w h t = h := if_pos (by omega)
    rw [nI_clamp (n := t) (by omega)]
    refine cx_longestRun hh ?_
    refine cy_isThread hw hh (fun _ => br_f cg_10 ⟨cf_cr w h t + 1, cy_lg O ht16 ⟨?_, cz_rel O⟩ (cf_cr w h t + 1) 0 (by omega) (by omega)⟩) (fun q => absurd a q)
    rw [e]
    exact ci_run (fun i hi => (cj_lw hw hh U (by omega) hi).symm)
  · have ht8 : 8 ≤ t ∧ t < 8 + h := by
      rcases tq with q | q
      · exact absurd ⟨t, q, rfl⟩ b
      · exact q
    have e : cf_cr w h t = w := if_neg (by omega)
    rw [nI_clamp (n := t) (by omega)]
    refine cx_longestRun hw ?_
    refine cy_isThread hw hh (fun _ => br_f cg_10 ⟨cf_cr w h t + 1, cy_lg O ht16 ⟨?_, cz_rel O⟩ (cf_cr w h t + 1) 0 (by omega) (by omega)⟩) (fun q => absurd a q)
    rw [e]
    exact ci_run (fun i hi => (cj_lf hw hh U ht8.1 ht8.2 hi).symm)
theorem i_vc_over {k : Nat} {u : SX} {v : SY} (I : i_Rel k u v) (hk : k + 3 ≤ 1538) (v1 : Int32) : wpX_over (fun r u' => wpY_over (fun r' => r' = r ∧ i_Rel (k + 3) u' v) v v1) u v1 := by
  obtain ⟨w, h, sf, tl, ti, un, be, mu, pa, ne, ask, wy, ct, O, rfl, rfl⟩ := I
  have hw := O.1.2.1
  have hh := O.1.2.2.2
  unfold wpX_over wpY_over
  dsimp only
  refine cx_isThread hw hh (fun a => br_f cg_10 ?_) (fun a => br_t rfl (cy_isThread hw hh (fun b => absurd b a) (fun b => br_t rfl ⟨rfl, cz_rel O⟩)))
  obtain ⟨t, ht16, ht, rfl⟩ := ci_t_16 hw hh a
  refine cx_findUnder O (fun un' U => ?_)
  try dsimp only
  refine ⟨vp_in_nI ht16 (by omega), ?_⟩
  rw [nI_clamp (n := t) (by omega)]
  refine cx_sizeOf ?_
  refine cy_isThread hw hh (fun _ => br_f cg_10 ⟨cf_cr w h t + 1, cy_ov O ht16 ⟨?_, cz_rel O⟩ (cf_cr w h t + 1) 0 (by omega) (by omega)⟩) (fun q => absurd a q)
  rw [cj_over hw hh U ht]
theorem i_vc_shafts {k : Nat} {u : SX} {v : SY} (I : i_Rel k u v) (hk : k + 3 ≤ 1538) : wpX_shafts (fun r u' => wpY_shafts (fun r' => r' = r ∧ i_Rel (k + 3) u' v) v) u := by
  obtain ⟨w, h, sf, tl, ti, un, be, mu, pa, ne, ask, wy, ct, O, rfl, rfl⟩ := I
  have hw := O.1.2.1
  have hh := O.1.2.2.2
  unfold wpX_shafts wpY_shafts
  dsimp only
  refine cx_findUnder O (fun un' U => ?_)
  try dsimp only
  refine cx_countDifferent (f := 0) (m := w) (by omega) ?_
  refine cy_different (f := 0) (m := w) O (by omega) ⟨?_, cz_rel O⟩
  apply congrArg nI
  apply cd_cn_c
  intro j hj
  refine cf_nw_c (fun s hs _ => ?_)
  exact (cj_eq hw hh U (cd_th_iff.mpr (Or.inl (by omega))) (cd_th_iff.mpr (Or.inl (by omega))) (by omega)).symm
theorem i_vc_treadles {k : Nat} {u : SX} {v : SY} (I : i_Rel k u v) (hk : k + 3 ≤ 1538) : wpX_treadles (fun r u' => wpY_treadles (fun r' => r' = r ∧ i_Rel (k + 3) u' v) v) u := by
  obtain ⟨w, h, sf, tl, ti, un, be, mu, pa, ne, ask, wy, ct, O, rfl, rfl⟩ := I
  have hw := O.1.2.1
  have hh := O.1.2.2.2
  unfold wpX_treadles wpY_treadles
  dsimp only
  refine cx_findUnder O (fun un' U => ?_)
  try dsimp only
  refine cx_countDifferent (f := 8) (m := h) (by omega) ?_
  refine cy_different (f := 8) (m := h) O (by omega) ⟨?_, cz_rel O⟩
  apply congrArg nI
  apply cd_cn_c
  intro j hj
  refine cf_nw_c (fun s hs _ => ?_)
  exact (cj_eq hw hh U (cd_th_iff.mpr (Or.inr (by omega))) (cd_th_iff.mpr (Or.inr (by omega))) (by omega)).symm
theorem i_vc_liftable {k : Nat} {u : SX} {v : SY} (I : i_Rel k u v) (hk : k + 3 ≤ 1538) (v1 : Int32) : wpX_liftable (fun r u' => wpY_liftable (fun r' => r' = r ∧ i_Rel (k + 3) u' v) v v1) u v1 := by
  obtain ⟨w, h, sf, tl, ti, un, be, mu, pa, ne, ask, wy, ct, O, rfl, rfl⟩ := I
  unfold wpX_liftable
  dsimp only
  refine cx_findUnder O (fun un' U => ?_)
  try dsimp only
  refine ⟨17, cx_li O U (fun a => ?_) (fun a => ?_) 17 0 (by omega) (by omega) (fun s hs => absurd hs (Nat.not_lt_zero s))⟩
  · exact cy_liftable O (fun _ => ⟨rfl, cz_rel O⟩) (fun b => (cd_tf b a).elim)
  · exact cy_liftable O (fun b => (cd_tf a b).elim) (fun _ => ⟨rfl, cz_rel O⟩)
theorem i_vc_hangs {k : Nat} {u : SX} {v : SY} (I : i_Rel k u v) (hk : k + 3 ≤ 1538) : wpX_hangs (fun r u' => wpY_hangs (fun r' v' => r' = r ∧ i_Rel (k + 3) u' v') v) u := by
  obtain ⟨w, h, sf, tl, ti, un, be, mu, pa, ne, ask, wy, ct, O, rfl, rfl⟩ := I
  have hw := O.1.2.1
  have C := cd_rr_Cl (ci_A sf tl ti) (h := h) hw
  unfold wpX_hangs wpY_hangs
  dsimp only
  refine cx_findBeneath O (fun un' be' B => ?_)
  try dsimp only
  refine cx_countKnots C B ?_
  refine br_c (fun a => ?_) (fun a => ?_)
  · refine cy_work O (fun mu' pa' ne' M P => ?_)
    try dsimp only
    exact br_t a ⟨rfl, cz_rel O⟩
  · refine cy_work O (fun mu' pa' ne' M P => ?_)
    try dsimp only
    exact br_f a ⟨rfl, cz_rel O⟩
theorem i_vc_layers {k : Nat} {u : SX} {v : SY} (I : i_Rel k u v) (hk : k + 3 ≤ 1538) : wpX_layers (fun r u' => wpY_layers (fun r' v' => r' = r ∧ i_Rel (k + 3) u' v') v) u := by
  obtain ⟨w, h, sf, tl, ti, un, be, mu, pa, ne, ask, wy, ct, O, rfl, rfl⟩ := I
  have hw := O.1.2.1
  have C := cd_rr_Cl (ci_A sf tl ti) (h := h) hw
  unfold wpX_layers wpY_layers
  dsimp only
  refine cx_findBeneath O (fun un' be' B => ?_)
  try dsimp only
  refine cx_countKnots C B ?_
  refine cy_work O (fun mu' pa' ne' M P => ?_)
  try dsimp only
  exact ⟨rfl, cz_rel O⟩
theorem i_vc_together {k : Nat} {u : SX} {v : SY} (I : i_Rel k u v) (hk : k + 3 ≤ 1538) (v1 : Int32) (v2 : Int32) : wpX_together (fun r u' => wpY_together (fun r' v' => r' = r ∧ i_Rel (k + 3) u' v') v v1 v2) u v1 v2 := by
  obtain ⟨w, h, sf, tl, ti, un, be, mu, pa, ne, ask, wy, ct, O, rfl, rfl⟩ := I
  have hw := O.1.2.1
  have hh := O.1.2.2.2
  have C := cd_rr_Cl (ci_A sf tl ti) (h := h) hw
  unfold wpX_together wpY_together
  dsimp only
  refine cx_isThread hw hh (fun a => br_f cg_10 ?_) (fun a => br_t rfl (cy_isThread hw hh (fun b => absurd b a) (fun b => br_t rfl ⟨rfl, cz_rel O⟩)))
  refine cx_isThread hw hh (fun b => br_f cg_10 ?_) (fun b => br_t rfl (cy_isThread hw hh (fun _ => br_f cg_10 (cy_isThread hw hh (fun d => absurd d b) (fun d => br_t rfl ⟨rfl, cz_rel O⟩))) (fun c => absurd a c)))
  obtain ⟨s, hs16, hs, rfl⟩ := ci_t_16 hw hh a
  obtain ⟨t, ht16, ht, rfl⟩ := ci_t_16 hw hh b
  refine cx_findBeneath O (fun un' be' B => ⟨vp_in_nI hs16 (by omega), vp_in_nI ht16 (by omega), ?_⟩)
  rw [nI_clamp (n := s) (by omega), nI_clamp (n := t) (by omega)]
  have rs : (cd_rr (ci_A sf tl ti) w h) s s = true := by rw [cd_rr_th]; exact hs
  have rt : (cd_rr (ci_A sf tl ti) w h) t t = true := by rw [cd_rr_th]; exact ht
  refine cg_if (cg_be_eq C B hs16 ht16 rt) (fun e => ?_) (fun e => ?_)
  · refine cy_isThread hw hh (fun _ => br_f cg_10 (cy_isThread hw hh (fun _ => br_f cg_10 (cy_work O (fun mu' pa' ne' M P => ?_))) (fun q => absurd b q))) (fun q => absurd a q)
    exact cy_held M hs16 ht16 rs rt (fun _ => br_f cg_10 ⟨rfl, cz_rel O⟩) (fun e' => (cd_tf e' e).elim)
  · refine cy_isThread hw hh (fun _ => br_f cg_10 (cy_isThread hw hh (fun _ => br_f cg_10 (cy_work O (fun mu' pa' ne' M P => ?_))) (fun q => absurd b q))) (fun q => absurd a q)
    exact cy_held M hs16 ht16 rs rt (fun e' => (cd_tf e e').elim) (fun _ => br_t rfl ⟨rfl, cz_rel O⟩)
theorem i_vc_lifts {k : Nat} {u : SX} {v : SY} (I : i_Rel k u v) (hk : k + 3 ≤ 1538) : wpX_lifts (fun r u' => wpY_lifts (fun r' v' => r' = r ∧ i_Rel (k + 3) u' v') v) u := by
  obtain ⟨w, h, sf, tl, ti, un, be, mu, pa, ne, ask, wy, ct, O, rfl, rfl⟩ := I
  have hw := O.1.2.1
  have hh := O.1.2.2.2
  have C := cd_rr_Cl (ci_A sf tl ti) (h := h) hw
  have hr : ∀ i, (cd_rr (ci_A sf tl ti) w h) i i = true → i < 16 := fun i hi => ce_th16 hw hh (by rw [← cd_rr_th (A := ci_A sf tl ti)]; exact hi)
  unfold wpX_lifts wpY_lifts
  dsimp only
  refine cx_findBeneath O (fun un' be' B => ⟨17, cx_lf C B ?_ 17 0 (by omega) (by omega)⟩)
  refine cy_work O (fun mu' pa' ne' M P => ?_)
  try dsimp only
  refine cy_sweep C hr M P (fun ask' a _ => ?_)
  try dsimp only
  exact ⟨cj_m2 _, cz_rel O⟩
theorem i_vc_divisions {k : Nat} {u : SX} {v : SY} (I : i_Rel k u v) (hk : k + 3 ≤ 1538) : wpX_divisions (fun r u' => wpY_divisions (fun r' v' => r' = r ∧ i_Rel (k + 3) u' v') v) u := by
  obtain ⟨w, h, sf, tl, ti, un, be, mu, pa, ne, ask, wy, ct, O, rfl, rfl⟩ := I
  have hw := O.1.2.1
  have hh := O.1.2.2.2
  have C := cd_rr_Cl (ci_A sf tl ti) (h := h) hw
  have hr : ∀ i, (cd_rr (ci_A sf tl ti) w h) i i = true → i < 16 := fun i hi => ce_th16 hw hh (by rw [← cd_rr_th (A := ci_A sf tl ti)]; exact hi)
  unfold wpX_divisions wpY_divisions
  dsimp only
  refine cx_findBeneath O (fun un' be' B => ⟨17, cx_dv C B ?_ 17 0 (by omega) (by omega)⟩)
  refine cy_work O (fun mu' pa' ne' M P => ?_)
  try dsimp only
  refine cy_sweep C hr M P (fun ask' a V => ?_)
  try dsimp only
  have hn : cd_cn (cd_fst (cd_rr (ci_A sf tl ti) w h)) 16 ≤ 16 := cd_cn_le _ _
  have hp := cj_pw hn
  have hp1 : 1 ≤ 2 ^ cd_cn (cd_fst (cd_rr (ci_A sf tl ti) w h)) 16 := Nat.two_pow_pos _
  have e1 : nI (2 ^ cd_cn (cd_fst (cd_rr (ci_A sf tl ti) w h)) 16) - 1 = nI (2 ^ cd_cn (cd_fst (cd_rr (ci_A sf tl ti) w h)) 16 - 1) := pk_sub (b := 1) hp1
  rw [ce_sh _ (by omega), e1, nI_clamp (n := 2 ^ cd_cn (cd_fst (cd_rr (ci_A sf tl ti) w h)) 16 - 1) (by omega), V _ (by omega), cd_v_full]
  exact ⟨vp_in_nI (by omega) (by omega), rfl, cz_rel O⟩
end
