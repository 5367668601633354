/-! counts, sums and products over the naturals below a bound; nothing of the program stands here -/
def cd_cn (p : Nat → Bool) : Nat → Nat
  | 0 => 0
  | n + 1 => cd_cn p n + (p n).toNat
def cd_sm (f : Nat → Nat) : Nat → Nat
  | 0 => 0
  | n + 1 => cd_sm f n + f n
def cd_pd (f : Nat → Nat) : Nat → Nat
  | 0 => 1
  | n + 1 => cd_pd f n * f n
def cd_fac : Nat → Nat
  | 0 => 1
  | n + 1 => cd_fac n * (n + 1)
theorem cd_cn_s (p : Nat → Bool) (n : Nat) : cd_cn p (n + 1) = cd_cn p n + (p n).toNat := rfl
theorem cd_sm_s (f : Nat → Nat) (n : Nat) : cd_sm f (n + 1) = cd_sm f n + f n := rfl
theorem cd_pd_s (f : Nat → Nat) (n : Nat) : cd_pd f (n + 1) = cd_pd f n * f n := rfl
theorem cd_cn_c {p q : Nat → Bool} {n : Nat} (h : ∀ i, i < n → p i = q i) : cd_cn p n = cd_cn q n := by
  induction n with
  | zero => rfl
  | succ n ih => rw [cd_cn_s, cd_cn_s, ih (fun i hi => h i (by omega)), h n (by omega)]
theorem cd_sm_c {f g : Nat → Nat} {n : Nat} (h : ∀ i, i < n → f i = g i) : cd_sm f n = cd_sm g n := by
  induction n with
  | zero => rfl
  | succ n ih => rw [cd_sm_s, cd_sm_s, ih (fun i hi => h i (by omega)), h n (by omega)]
theorem cd_pd_c {f g : Nat → Nat} {n : Nat} (h : ∀ i, i < n → f i = g i) : cd_pd f n = cd_pd g n := by
  induction n with
  | zero => rfl
  | succ n ih => rw [cd_pd_s, cd_pd_s, ih (fun i hi => h i (by omega)), h n (by omega)]
theorem cd_b_1 (b : Bool) : b.toNat ≤ 1 := by cases b <;> decide
theorem cd_cn_le (p : Nat → Bool) (n : Nat) : cd_cn p n ≤ n := by
  induction n with
  | zero => exact Nat.le_refl 0
  | succ n ih => rw [cd_cn_s]; have := cd_b_1 (p n); omega
theorem cd_cn_0 (n : Nat) : cd_cn (fun _ => false) n = 0 := by
  induction n with
  | zero => rfl
  | succ n ih => rw [cd_cn_s, ih]; try rfl
theorem cd_cn_f {p : Nat → Bool} {n : Nat} (h : ∀ i, i < n → p i = false) : cd_cn p n = 0 := by
  rw [cd_cn_c (q := fun _ => false) h, cd_cn_0]
theorem cd_sm_0 {f : Nat → Nat} {n : Nat} (h : ∀ i, i < n → f i = 0) : cd_sm f n = 0 := by
  induction n with
  | zero => rfl
  | succ n ih => rw [cd_sm_s, ih (fun i hi => h i (by omega)), h n (by omega)]
theorem cd_cn_add (p : Nat → Bool) (a b : Nat) : cd_cn p (a + b) = cd_cn p a + cd_cn (fun i => p (a + i)) b := by
  induction b with
  | zero => rfl
  | succ b ih =>
    have e : cd_cn p (a + (b + 1)) = cd_cn p (a + b) + (p (a + b)).toNat := rfl
    rw [e, ih, cd_cn_s, Nat.add_assoc]
theorem cd_cn_mono (p : Nat → Bool) {a b : Nat} (h : a ≤ b) : cd_cn p a ≤ cd_cn p b := by
  obtain ⟨c, rfl⟩ : ∃ c, b = a + c := ⟨b - a, by omega⟩
  rw [cd_cn_add]
  omega
theorem cd_cn_imp {p q : Nat → Bool} {n : Nat} (h : ∀ i, i < n → p i = true → q i = true) : cd_cn p n ≤ cd_cn q n := by
  induction n with
  | zero => exact Nat.le_refl 0
  | succ n ih =>
    rw [cd_cn_s, cd_cn_s]
    have i1 := ih (fun i hi => h i (by omega))
    have i2 := h n (by omega)
    cases hp : p n with
    | false =>
      have : (false).toNat = 0 := rfl
      omega
    | true =>
      rw [i2 hp]
      omega
theorem cd_b_io (a b : Bool) : a.toNat + b.toNat = (a || b).toNat + (a && b).toNat := by cases a <;> cases b <;> rfl
theorem cd_cn_io (p q : Nat → Bool) (n : Nat) : cd_cn p n + cd_cn q n = cd_cn (fun i => p i || q i) n + cd_cn (fun i => p i && q i) n := by
  induction n with
  | zero => rfl
  | succ n ih =>
    rw [cd_cn_s, cd_cn_s, cd_cn_s, cd_cn_s]
    have := cd_b_io (p n) (q n)
    omega
theorem cd_cn_and (p : Nat → Bool) (b : Bool) (n : Nat) : cd_cn (fun i => p i && b) n = cond b (cd_cn p n) 0 := by
  cases b with
  | false => exact cd_cn_f (fun i _ => Bool.and_false _)
  | true => exact cd_cn_c (fun i _ => Bool.and_true _)
theorem cd_cn_rm {M M' : Nat → Bool} {k n : Nat} (hk : k < n) (hM : M k = true) (h : ∀ i, i < n → M' i = (M i && !decide (i = k))) : cd_cn M' n + 1 = cd_cn M n := by
  induction n with
  | zero => omega
  | succ n ih =>
    rw [cd_cn_s, cd_cn_s]
    rcases Nat.lt_or_ge k n with hl | hl
    · have e1 := ih hl (fun i hi => h i (by omega))
      have e2 : M' n = M n := by
        rw [h n (by omega), decide_eq_false (by omega), Bool.not_false, Bool.and_true]
      rw [e2]
      omega
    · have ek : k = n := by omega
      have e1 : cd_cn M' n = cd_cn M n := cd_cn_c (fun i hi => by
        rw [h i (by omega), decide_eq_false (by omega), Bool.not_false, Bool.and_true])
      have e2 : M' n = false := by
        rw [h n (by omega), decide_eq_true ek.symm, Bool.not_true, Bool.and_false]
      have e3 : M n = true := by rw [← ek]; exact hM
      rw [e1, e2, e3]
      try rfl
theorem cd_cn_pos {M : Nat → Bool} {k n : Nat} (hk : k < n) (hM : M k = true) : 1 ≤ cd_cn M n := by
  have := cd_cn_rm (M' := fun i => M i && !decide (i = k)) hk hM (fun _ _ => rfl)
  omega
theorem cd_cn_ex {p : Nat → Bool} {n k : Nat} (h : k < cd_cn p n) : ∃ s, s < n ∧ p s = true ∧ cd_cn p s = k := by
  induction n with
  | zero => exact absurd h (Nat.not_lt_zero k)
  | succ n ih =>
    rw [cd_cn_s] at h
    rcases Nat.lt_or_ge k (cd_cn p n) with hl | hl
    · obtain ⟨s, h1, h2, h3⟩ := ih hl
      exact ⟨s, by omega, h2, h3⟩
    · cases hp : p n with
      | false =>
        rw [hp] at h
        have : (false).toNat = 0 := rfl
        omega
      | true =>
        rw [hp] at h
        have : (true).toNat = 1 := rfl
        exact ⟨n, by omega, hp, by omega⟩
theorem cd_cn_lt {p : Nat → Bool} {s t : Nat} (h : s < t) (hp : p s = true) : cd_cn p s < cd_cn p t := by
  have h1 := cd_cn_mono p (a := s + 1) (b := t) (by omega)
  rw [cd_cn_s, hp] at h1
  have : (true).toNat = 1 := rfl
  omega
theorem cd_cn_inj {p : Nat → Bool} {s t : Nat} (hs : p s = true) (ht : p t = true) (h : cd_cn p s = cd_cn p t) : s = t := by
  rcases Nat.lt_trichotomy s t with hl | hl | hl
  · have := cd_cn_lt hl hs
    omega
  · exact hl
  · have := cd_cn_lt hl ht
    omega
theorem cd_pd_mul (f g : Nat → Nat) (n : Nat) : cd_pd f n * cd_pd g n = cd_pd (fun k => f k * g k) n := by
  induction n with
  | zero => rfl
  | succ n ih => rw [cd_pd_s, cd_pd_s, cd_pd_s, ← ih, Nat.mul_mul_mul_comm]
theorem cd_pd_fac (M : Nat → Bool) (n : Nat) : cd_pd (fun k => cond (M k) (1 + cd_cn M k) 1) n = cd_fac (cd_cn M n) := by
  induction n with
  | zero => rfl
  | succ n ih =>
    rw [cd_pd_s, ih, cd_cn_s]
    cases M n with
    | false => exact Nat.mul_one _
    | true =>
      show cd_fac (cd_cn M n) * (1 + cd_cn M n) = cd_fac (cd_cn M n) * (cd_cn M n + 1)
      rw [Nat.add_comm 1]
theorem cd_pd_le {f g : Nat → Nat} {n : Nat} (h : ∀ i, i < n → f i ≤ g i) : cd_pd f n ≤ cd_pd g n := by
  induction n with
  | zero => exact Nat.le_refl 1
  | succ n ih =>
    rw [cd_pd_s, cd_pd_s]
    exact Nat.mul_le_mul (ih (fun i hi => h i (by omega))) (h n (by omega))
theorem cd_pd_pos {f : Nat → Nat} {n : Nat} (h : ∀ i, i < n → 1 ≤ f i) : 1 ≤ cd_pd f n := by
  induction n with
  | zero => exact Nat.le_refl 1
  | succ n ih =>
    rw [cd_pd_s]
    exact Nat.mul_pos (ih (fun i hi => h i (by omega))) (h n (by omega))
theorem cd_sm_add (f g : Nat → Nat) (n : Nat) : cd_sm f n + cd_sm g n = cd_sm (fun k => f k + g k) n := by
  induction n with
  | zero => rfl
  | succ n ih =>
    rw [cd_sm_s, cd_sm_s, cd_sm_s, ← ih]
    omega
theorem cd_sm_cn (M : Nat → Bool) (c n : Nat) : cd_sm (fun k => cond (M k) c 0) n = cd_cn M n * c := by
  induction n with
  | zero => exact (Nat.zero_mul c).symm
  | succ n ih =>
    rw [cd_sm_s, ih, cd_cn_s, Nat.add_mul]
    cases M n with
    | false => exact congrArg _ (Nat.zero_mul c).symm
    | true => exact congrArg _ (Nat.one_mul c).symm
/-! sums over the marked places are sums over their ranks -/
theorem cd_tr_cn (p q : Nat → Bool) (n : Nat) : cd_cn (fun s => p s && q (cd_cn p s)) n = cd_cn q (cd_cn p n) := by
  induction n with
  | zero => rfl
  | succ n ih =>
    rw [cd_cn_s, ih, cd_cn_s]
    cases p n with
    | false => rfl
    | true => rfl
theorem cd_tr_sm (p : Nat → Bool) (g : Nat → Nat) (n : Nat) : cd_sm (fun s => cond (p s) (g (cd_cn p s)) 0) n = cd_sm g (cd_cn p n) := by
  induction n with
  | zero => rfl
  | succ n ih =>
    rw [cd_sm_s, ih, cd_cn_s]
    cases p n with
    | false => rfl
    | true => rfl
theorem cd_tr_pd (p : Nat → Bool) (g : Nat → Nat) (n : Nat) : cd_pd (fun s => cond (p s) (g (cd_cn p s)) 1) n = cd_pd g (cd_cn p n) := by
  induction n with
  | zero => rfl
  | succ n ih =>
    rw [cd_pd_s, ih, cd_cn_s]
    cases p n with
    | false => exact Nat.mul_one _
    | true => rfl
